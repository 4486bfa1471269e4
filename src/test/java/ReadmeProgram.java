import java.io.IOException;
import java.nio.file.Files;
import java.nio.file.Path;
import java.util.ArrayList;
import java.util.List;
import java.util.Set;
import java.util.regex.Matcher;
import java.util.regex.Pattern;

/**
 * Turns the java examples of README.md into a program, ReadmeExample, that fails if a call answers
 * something else than the comment behind it says.
 */
final class ReadmeProgram {
    private static final String BEGIN = "WayTables t = new WayTables();";
    private static final Pattern CALL = Pattern.compile("(t\\.(\\w+)\\(.*\\));(?: *// (.*))?");
    private static final Pattern DUE = Pattern.compile("(answers|throws) (\\S+)(?: \\(.*\\))?");
    private static final Set<String> WITHOUT_ANSWER = Set.of("clear", "make", "set");

    private ReadmeProgram() {
    }

    public static void main(String[] args) throws IOException {
        try {
            System.out.print(program(Files.readAllLines(Path.of(args[0]))));
        } catch (IllegalArgumentException e) {
            System.err.println(e.getMessage());
            System.exit(1);
        }
    }

    static String program(List<String> readme) {
        StringBuilder body = new StringBuilder();
        List<List<String>> examples = examples(readme);
        if (examples.isEmpty()) {
            throw new IllegalArgumentException("README.md shows no example");
        }
        for (List<String> example : examples) {
            body.append("        {\n");
            for (String line : example) {
                if (!line.isBlank()) {
                    body.append("            ").append(statement(line.strip())).append("\n");
                }
            }
            body.append("        }\n");
        }
        return "public final class ReadmeExample {\n"
            + "    public static void main(String[] args) {\n"
            + body
            + "        Check.end();\n"
            + "    }\n"
            + "}\n";
    }

    private static List<List<String>> examples(List<String> readme) {
        List<List<String>> all = new ArrayList<>();
        List<String> open = null;
        for (String line : readme) {
            if (line.equals("```java")) {
                open = new ArrayList<>();
            } else if (line.equals("```") && open != null) {
                all.add(open);
                open = null;
            } else if (open != null) {
                open.add(line);
            }
        }
        if (open != null) {
            throw new IllegalArgumentException("README.md has an example without an end");
        }
        return all;
    }

    /** A call that answers must say what it answers, or the example could not be found to be wrong. */
    private static String statement(String line) {
        if (line.equals(BEGIN)) {
            return line;
        }
        Matcher call = CALL.matcher(line);
        if (!call.matches()) {
            throw new IllegalArgumentException("README.md: neither a call nor the beginning: " + line);
        }
        Matcher due = DUE.matcher(call.group(3) == null ? "" : call.group(3));
        if (due.matches()) {
            return check(call.group(1), due.group(1), due.group(2));
        }
        if (!WITHOUT_ANSWER.contains(call.group(2))) {
            throw new IllegalArgumentException("README.md: a call without its answer: " + line);
        }
        return call.group(1) + ";";
    }

    private static String check(String call, String how, String due) {
        String name = "\"README.md: " + call + "\"";
        if (how.equals("throws")) {
            return "Check.fails(" + name + ", " + due + ".class, () -> " + call + ");";
        }
        switch (due) {
            case "true":
                return "Check.yes(" + name + ", " + call + ");";
            case "false":
                return "Check.no(" + name + ", " + call + ");";
            default:
                return "Check.same(" + name + ", " + call + ", " + due + ");";
        }
    }
}
