import java.io.IOException;
import java.nio.file.Files;
import java.nio.file.Path;
import java.util.ArrayList;
import java.util.List;
import java.util.Map;
import java.util.Set;
import java.util.TreeMap;
import java.util.regex.Matcher;
import java.util.regex.Pattern;

/**
 * The program's text keeps to the rules of LANGUAGE.md that can be read off
 * it; what can be read off the compiled class is in FaceTests.
 */
public final class LanguageTests {
    private static final Path PROGRAM = Path.of("src/main/java/PictureStages.java");

    /** Every word that the rules leave and the program needs, beside its own names. */
    private static final Set<String> WORDS = Set.of("public", "private", "static", "final", "class",
        "int", "long", "short", "byte", "char", "boolean", "void", "true", "false", "new",
        "if", "else", "for", "while", "do", "switch", "case", "default", "break", "continue", "return");
    private static final Set<String> BEFORE_A_BRACKET = Set.of("if", "for", "while", "switch", "return");

    private static final Pattern WORD = Pattern.compile("[A-Za-z_]\\w*");
    private static final Pattern DECLARED = Pattern.compile(
        "\\b(?:class|void|(?:int|long|short|byte|char|boolean)(?:\\[\\])?) ([A-Za-z_]\\w*)");
    private static final Pattern METHOD = Pattern.compile("    (?:public|private) (?:static )?\\w+ (\\w+)\\(.*\\) \\{");
    private static final Pattern FIELD_WITH_ARRAY = Pattern.compile(
        "    private final (\\w+)\\[\\] \\w+ = new \\1\\[[A-Z0-9_]+\\];");
    private static final Pattern CALL = Pattern.compile("\\b([a-z]\\w*)\\(");

    private static final Answers ANSWERS = new Answers();

    private static void dueTrue(String what, boolean holds) {
        ANSWERS.due(what, holds ? 1 : 0, 1);
    }

    private static List<String> linesWithoutComments() throws IOException {
        List<String> lines = new ArrayList<>();
        for (String line : Files.readAllLines(PROGRAM)) {
            int comment = line.indexOf("//");
            lines.add(comment < 0 ? line : line.substring(0, comment));
        }
        return lines;
    }

    /** Rules 2, 3, 6 and 11: a class of the library, a null, a throw and so on would each be a word of another kind. */
    private static void words(String text) {
        List<String> known = new ArrayList<>(WORDS);
        Matcher declared = DECLARED.matcher(text);
        while (declared.find()) {
            known.add(declared.group(1));
        }
        Matcher word = WORD.matcher(text);
        while (word.find()) {
            dueTrue("the word " + word.group() + " is left by the rules", known.contains(word.group()));
        }
        for (String sign : new String[] {"\"", "::", "->", "@", ".", "/*", "[][]"}) {
            dueTrue("without " + sign, !text.contains(sign));
        }
    }

    /** Rule 4: arrays are made in the fields' initialisers, each with a constant length. */
    private static void arrays(List<String> lines) {
        for (String line : lines) {
            if (line.contains("new ")) {
                dueTrue("makes an array of a field: " + line, FIELD_WITH_ARRAY.matcher(line).matches());
            }
        }
    }

    private static Map<String, List<String>> methods(List<String> lines) {
        Map<String, List<String>> methods = new TreeMap<>();
        List<String> body = new ArrayList<>();
        for (String line : lines) {
            Matcher method = METHOD.matcher(line);
            if (method.matches()) {
                body = new ArrayList<>();
                methods.put(method.group(1), body);
            } else {
                body.add(line);
            }
        }
        return methods;
    }

    private static List<String> callsIn(String text) {
        List<String> calls = new ArrayList<>();
        Matcher call = CALL.matcher(text);
        while (call.find()) {
            if (!BEFORE_A_BRACKET.contains(call.group(1))) {
                calls.add(call.group(1));
            }
        }
        return calls;
    }

    private static String argumentsFrom(String line, int start) {
        int open = 1;
        for (int i = start; i < line.length(); i++) {
            open += line.charAt(i) == '(' ? 1 : line.charAt(i) == ')' ? -1 : 0;
            if (open == 0) {
                return line.substring(start, i);
            }
        }
        return line.substring(start);
    }

    /** Rule 10: no call inside the arguments of another. */
    private static void argumentsOfCalls(String line) {
        Matcher call = CALL.matcher(line);
        while (call.find()) {
            if (!BEFORE_A_BRACKET.contains(call.group(1))) {
                List<String> inside = callsIn(argumentsFrom(line, call.end()));
                ANSWERS.due("calls inside the arguments of " + call.group(1), inside.size(), 0);
            }
        }
    }

    /** How deep calls go from a method; more than 6 for a method that comes back to itself. */
    private static int depth(Map<String, List<String>> methods, String name, int above) {
        if (above > 6) {
            return 1;
        }
        int deepest = 0;
        for (String line : methods.getOrDefault(name, List.of())) {
            for (String called : callsIn(line)) {
                deepest = Math.max(deepest, depth(methods, called, above + 1));
            }
        }
        return deepest + 1;
    }

    /** Rules 8 and 10: no recursion, calls at most six deep, methods of some sixty lines. */
    private static void shapes(Map<String, List<String>> methods) {
        dueTrue("methods were found", methods.containsKey("changed"));
        for (Map.Entry<String, List<String>> method : methods.entrySet()) {
            String name = method.getKey();
            dueTrue(name + " is short", method.getValue().size() <= 60);
            dueTrue(name + " calls at most six deep", depth(methods, name, 0) <= 6);
            for (String line : method.getValue()) {
                argumentsOfCalls(line);
                for (String called : callsIn(line)) {
                    dueTrue(name + " calls " + called + " of the class", methods.containsKey(called));
                }
            }
        }
    }

    public static void main(String[] args) throws IOException {
        List<String> lines = linesWithoutComments();
        words(String.join("\n", lines));
        arrays(lines);
        shapes(methods(lines));
        ANSWERS.end();
    }
}
