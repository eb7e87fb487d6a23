import java.io.IOException;
import java.lang.reflect.Method;
import java.lang.reflect.Modifier;
import java.nio.file.Files;
import java.nio.file.Path;
import java.util.ArrayList;
import java.util.List;

/** README.md tells what is so: its example, its table of calls, and its command. Runs in the project's directory. */
public final class ReadmeTest {
    private static final String EXAMPLE = "example";

    private static final Check CHECK = new Check();

    public static void main(String[] args) throws IOException {
        List<String> readme = Files.readAllLines(Path.of("README.md"));
        exampleHasItsAnswers();
        exampleIsTheOneTested(readme);
        tableHasEachCall(readme);
        commandIsThatOfCi(readme);
        CHECK.end();
    }

    private static void exampleHasItsAnswers() {
        // The example begins.
        BeltRows rows = new BeltRows();
        int first = rows.belt(1000, 300); // 0: a belt 1000 mm long, 300 mm a second
        int second = rows.belt(500, 200); // 1
        int ways = rows.join(first, 0, second, 1); // 1: so many ways lead to the second belt now
        int scanner = rows.scanner(first, 300, 1); // 0: reads at 300 mm, told one second later
        int item = rows.item(first, 200); // 1: the item's number
        int missing = rows.item(first, 200); // -300: none is put, 300 mm are missing to room
        int edges = rows.step(10); // 3: in ten seconds one read, one passed on, one out
        int kind = rows.edge(1, 1); // 2: passed on
        int when = rows.edge(1, 0); // 5: in the fifth second
        int state = rows.told(item, 0); // 1: out
        int gone = rows.order(0); // 1: the first item that went out
        int mean = rows.mean(); // 8: seconds from putting to going out
        // The example ends.
        int[] got = {first, second, ways, scanner, item, missing, edges, kind, when, state, gone, mean};
        int[] due = {0, 1, 1, 0, 1, -300, 3, 2, 5, 1, 1, 8};
        for (int i = 0; i < due.length; i++) {
            CHECK.is(EXAMPLE + ", answer " + i, got[i], due[i]);
        }
        for (int i = 0; i < 3; i++) {
            CHECK.is(EXAMPLE + ", kind of edge " + i, rows.edge(i, 1), new int[] {0, 2, 1}[i]);
        }
    }

    private static void exampleIsTheOneTested(List<String> readme) throws IOException {
        List<String> source = Files.readAllLines(Path.of("src/test/java/ReadmeTest.java"));
        List<String> tested = between(source, "// The example begins.", "// The example ends.");
        List<String> shown = between(readme, "```java", "```");
        CHECK.is("the example's lines", shown.size(), 13);
        if (!shown.equals(tested)) {
            CHECK.complain("README.md shows " + shown + ", tested is " + tested);
        }
    }

    private static void tableHasEachCall(List<String> readme) {
        int rows = 0;
        for (Method call : BeltRows.class.getDeclaredMethods()) {
            if (Modifier.isPublic(call.getModifiers())) {
                rows++;
                rowTells(readme, call);
            }
        }
        CHECK.is("rows of calls", startingWith(readme, "| `").size(), rows);
    }

    private static void rowTells(List<String> readme, Method call) {
        List<String> found = startingWith(readme, "| `" + call.getName() + "(");
        CHECK.is("rows of " + call.getName(), found.size(), 1);
        if (found.size() != 1) {
            return;
        }
        String row = found.get(0);
        String parameters = row.substring(row.indexOf('(') + 1, row.indexOf(')'));
        int many = parameters.isEmpty() ? 0 : parameters.split(", ").length;
        CHECK.is("parameters of " + call.getName(), many, call.getParameterCount());
        Class<?>[] thrown = call.getExceptionTypes();
        CHECK.is("exceptions of " + call.getName(), row.split("Exception`", -1).length - 1, thrown.length);
        int last = -1;
        for (Class<?> exception : thrown) {
            int at = row.indexOf("`" + exception.getSimpleName() + "`: ");
            CHECK.is(call.getName() + " tells " + exception.getSimpleName() + " in its turn", at > last ? 1 : 0, 1);
            last = at;
        }
    }

    private static void commandIsThatOfCi(List<String> readme) throws IOException {
        List<String> shown = between(readme, "```sh", "```");
        CHECK.is("one command", shown.size(), 1);
        List<String> ci = Files.readAllLines(Path.of(".ci/run"));
        CHECK.is(".ci/run runs " + shown, ci.get(ci.size() - 1).equals("exec " + String.join("", shown)) ? 1 : 0, 1);
    }

    private static List<String> startingWith(List<String> lines, String start) {
        List<String> found = new ArrayList<>();
        for (String line : lines) {
            if (line.startsWith(start)) {
                found.add(line);
            }
        }
        return found;
    }

    private static List<String> between(List<String> lines, String begin, String end) {
        List<String> found = new ArrayList<>();
        boolean inside = false;
        for (String line : lines) {
            String text = line.strip();
            if (inside && text.equals(end)) {
                return found;
            }
            if (inside) {
                found.add(text);
            }
            inside = inside || text.equals(begin);
        }
        return found;
    }
}
