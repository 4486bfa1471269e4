import java.util.ArrayList;
import java.util.List;

/** The examples of README.md are checked call by call: none slips through without its answer. */
public final class ReadmeProgramTest {
    public static void main(String[] args) {
        becomes("t.match(); // answers 3", "Check.same(\"README.md: t.match()\", t.match(), 3);");
        becomes("t.match(); // answers WayTables.NONE (no entry)",
            "Check.same(\"README.md: t.match()\", t.match(), WayTables.NONE);");
        becomes("t.remove();   // answers true", "Check.yes(\"README.md: t.remove()\", t.remove());");
        becomes("t.remove();   // answers false (none)", "Check.no(\"README.md: t.remove()\", t.remove());");
        becomes("t.match(); // throws IllegalStateException (no table)",
            "Check.fails(\"README.md: t.match()\", IllegalStateException.class, () -> t.match());");
        becomes("t.make(4, 1, 1); // four buckets", "t.make(4, 1, 1);");
        becomes("t.clear();", "t.clear();");
        becomes("WayTables t = new WayTables();", "WayTables t = new WayTables();");
        becomes("", "");
        refuses("a call without a comment", "```java", "t.match();", "```");
        refuses("a call whose comment tells no answer", "```java", "t.match(); // 3", "```");
        refuses("a line that is no call", "```java", "int x = t.match(); // answers 3", "```");
        refuses("an example without an end", "```java", "t.clear();");
        refuses("no example", "# WayTables", "```", "t.match();", "```");
        refuses("an empty README.md");
        Check.end();
    }

    private static void becomes(String line, String due) {
        String program = ReadmeProgram.program(List.of("# Title", "```java", line, "```", "text", "```", "x", "```"));
        List<String> statements = new ArrayList<>();
        boolean open = false;
        for (String text : program.split("\n")) {
            if (text.equals("        }")) {
                open = false;
            } else if (open) {
                statements.add(text.strip());
            } else if (text.equals("        {")) {
                open = true;
            }
        }
        List<String> dueStatements = due.isEmpty() ? List.of() : List.of(due);
        if (!statements.equals(dueStatements)) {
            Check.tell(line + " became " + statements + ", due is " + dueStatements);
        }
    }

    private static void refuses(String what, String... readme) {
        Check.failsArgument(what, () -> ReadmeProgram.program(List.of(readme)));
    }
}
