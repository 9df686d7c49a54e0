import java.io.IOException;
import java.lang.reflect.Method;
import java.lang.reflect.Modifier;
import java.nio.file.Files;
import java.nio.file.Path;
import java.util.Arrays;
import java.util.List;
import java.util.regex.Matcher;
import java.util.regex.Pattern;

/** What README.md says of the class holds: its example's answers, and that its table has each call. */
public final class ReadmeTests {
    private static final String NEW = "PictureStages p = new PictureStages();";
    private static final Pattern CALL = Pattern.compile("p\\.(\\w+)\\(([-0-9, ]*)\\); *// (?:(-?\\d+)(?::.*)?|\\D.*)");

    private static final Answers ANSWERS = new Answers();

    /** The lines between the one that opens the Java block and the one that closes it. */
    private static List<String> example(List<String> readme) {
        int first = readme.indexOf("```java") + 1;
        List<String> rest = readme.subList(first, readme.size());
        return rest.subList(0, rest.indexOf("```"));
    }

    private static Method named(String name) {
        for (Method method : PictureStages.class.getDeclaredMethods()) {
            if (Modifier.isPublic(method.getModifiers()) && method.getName().equals(name)) {
                return method;
            }
        }
        throw new IllegalStateException("there is no call " + name);
    }

    private static Object[] numbers(String list) {
        if (list.isBlank()) {
            return new Object[0];
        }
        return Arrays.stream(list.split(", ")).map(Integer::valueOf).toArray();
    }

    private static void dueLine(PictureStages p, String line) throws ReflectiveOperationException {
        Matcher call = CALL.matcher(line);
        if (!call.matches()) {
            ANSWERS.due("a line of another form: " + line, 0, 1);
            return;
        }
        Object got = named(call.group(1)).invoke(p, numbers(call.group(2)));
        String told = call.group(3);
        ANSWERS.due(line + " tells an answer", told == null ? 0 : 1, got == null ? 0 : 1);
        if (told != null && got != null) {
            ANSWERS.due(line, (Integer) got, Integer.parseInt(told));
        }
    }

    private static void dueExample(List<String> lines) throws ReflectiveOperationException {
        ANSWERS.due("the example begins with a new object", lines.get(0).equals(NEW) ? 1 : 0, 1);
        PictureStages p = new PictureStages();
        for (String line : lines.subList(1, lines.size())) {
            dueLine(p, line);
        }
    }

    private static void dueTable(List<String> readme) {
        for (Method method : PictureStages.class.getDeclaredMethods()) {
            if (Modifier.isPublic(method.getModifiers())) {
                String start = "| `" + method.getName() + "(";
                long rows = readme.stream().filter(line -> line.startsWith(start)).count();
                ANSWERS.due("rows for " + method.getName(), rows, 1);
            }
        }
    }

    public static void main(String[] args) throws IOException, ReflectiveOperationException {
        List<String> readme = Files.readAllLines(Path.of("README.md"));
        dueExample(example(readme));
        dueTable(readme);
        ANSWERS.end();
    }
}
