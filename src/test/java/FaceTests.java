import java.lang.reflect.Member;
import java.lang.reflect.Modifier;
import java.util.ArrayList;
import java.util.Arrays;
import java.util.List;
import java.util.TreeSet;

/** The class shows the document's face and nothing else. */
public final class FaceTests {
    private static final List<String> FACE = List.of(
        "public int PictureStages.put(int,int,int)",
        "public void PictureStages.slope(int,int,int)",
        "public int PictureStages.apply(int)",
        "public int PictureStages.token(int,int)",
        "public int PictureStages.clearDraft()",
        "public int PictureStages.stage()",
        "public int PictureStages.dropStage()",
        "public int PictureStages.way(int,int)",
        "public int PictureStages.stages()",
        "public int PictureStages.source(int,int)",
        "public int PictureStages.value(int,int,int)",
        "public int PictureStages.total(int)",
        "public int PictureStages.peak(int)",
        "public int PictureStages.atLeast(int,int)",
        "public int PictureStages.differ(int,int)",
        "public int PictureStages.changed(int)",
        "public PictureStages()");

    public static void main(String[] args) {
        Class<?> program = PictureStages.class;
        List<Member> members = new ArrayList<>();
        members.addAll(Arrays.asList(program.getDeclaredConstructors()));
        members.addAll(Arrays.asList(program.getDeclaredMethods()));
        members.addAll(Arrays.asList(program.getDeclaredFields()));
        TreeSet<String> seen = new TreeSet<>();
        for (Member member : members) {
            if (!Modifier.isPrivate(member.getModifiers())) {
                seen.add(member.toString());
            }
        }
        Answers answers = new Answers();
        if (!seen.equals(new TreeSet<>(FACE))) {
            System.out.println("the face is " + seen);
        }
        answers.due("the face is as documented", seen.equals(new TreeSet<>(FACE)) ? 1 : 0, 1);
        int modifiers = program.getModifiers();
        answers.due("the class is public and final", modifiers, Modifier.PUBLIC | Modifier.FINAL);
        answers.due("nested classes", program.getDeclaredClasses().length, 0);
        answers.end();
    }
}
