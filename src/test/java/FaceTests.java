import java.lang.reflect.Field;
import java.lang.reflect.Member;
import java.lang.reflect.Method;
import java.lang.reflect.Modifier;
import java.util.ArrayList;
import java.util.Arrays;
import java.util.List;
import java.util.Set;
import java.util.TreeSet;

/** The class shows the document's face and nothing else, and keeps to what LANGUAGE.md says of its members. */
public final class FaceTests {
    private static final Set<String> FACE = new TreeSet<>(List.of(
        "public int PictureStages.put(int,int,int)",
        "public void PictureStages.slope(int,int,int)",
        "public int PictureStages.apply(int)",
        "public int PictureStages.token(int,int)",
        "public int PictureStages.clearDraft()",
        "public int PictureStages.stage()",
        "public int PictureStages.dropStage()",
        "public int PictureStages.way(int,int)",
        "public int PictureStages.stages()",
        "public int PictureStages.source(int,int)",
        "public int PictureStages.value(int,int,int)",
        "public int PictureStages.total(int)",
        "public int PictureStages.peak(int)",
        "public int PictureStages.atLeast(int,int)",
        "public int PictureStages.differ(int,int)",
        "public int PictureStages.changed(int)",
        "public PictureStages()"));

    private static final Class<?> PROGRAM = PictureStages.class;
    private static final Answers ANSWERS = new Answers();

    private static void face() {
        List<Member> members = new ArrayList<>();
        members.addAll(Arrays.asList(PROGRAM.getDeclaredConstructors()));
        members.addAll(Arrays.asList(PROGRAM.getDeclaredMethods()));
        members.addAll(Arrays.asList(PROGRAM.getDeclaredFields()));
        Set<String> seen = new TreeSet<>();
        for (Member member : members) {
            if (!Modifier.isPrivate(member.getModifiers())) {
                seen.add(member.toString());
            }
        }
        if (!seen.equals(FACE)) {
            System.out.println("the face is " + seen);
        }
        ANSWERS.due("the face is as documented", seen.equals(FACE) ? 1 : 0, 1);
        ANSWERS.due("the class is public and final", PROGRAM.getModifiers(), Modifier.PUBLIC | Modifier.FINAL);
        ANSWERS.due("nested classes", PROGRAM.getDeclaredClasses().length, 0);
    }

    private static void methods() {
        Set<String> shown = new TreeSet<>();
        for (Method method : PROGRAM.getDeclaredMethods()) {
            if (Modifier.isPublic(method.getModifiers())) {
                shown.add(method.getName());
            }
        }
        for (Method method : PROGRAM.getDeclaredMethods()) {
            boolean hidden = Modifier.isPrivate(method.getModifiers());
            String name = method.getName();
            ANSWERS.due("private " + name + " has a public name", hidden && shown.contains(name) ? 1 : 0, 0);
            ANSWERS.due(name + " has too many parameters", method.getParameterCount() > 7 ? 1 : 0, 0);
            ANSWERS.due(name + " answers an array", method.getReturnType().isArray() ? 1 : 0, 0);
        }
    }

    private static void fields() {
        int held = 0;
        for (Field field : PROGRAM.getDeclaredFields()) {
            Class<?> type = field.getType();
            if (Modifier.isStatic(field.getModifiers())) {
                boolean constant = Modifier.isFinal(field.getModifiers()) && (type == int.class || type == long.class);
                ANSWERS.due(field.getName() + " is a constant", constant ? 1 : 0, 1);
            } else {
                held++;
                Class<?> plain = type.isArray() ? type.getComponentType() : type;
                boolean number = plain.isPrimitive() && plain != float.class && plain != double.class;
                ANSWERS.due(field.getName() + " holds whole numbers", number ? 1 : 0, 1);
            }
        }
        ANSWERS.due("more than 40 fields", held > 40 ? 1 : 0, 0);
    }

    public static void main(String[] args) {
        face();
        methods();
        fields();
        ANSWERS.end();
    }
}
