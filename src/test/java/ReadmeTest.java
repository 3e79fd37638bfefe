import java.io.IOException;
import java.nio.file.Files;
import java.nio.file.Path;
import java.util.ArrayList;
import java.util.List;

/** README.md tells each call of the face, and its example answers what its comments say. Runs in the root folder. */
public final class ReadmeTest {
    private static final Check CHECK = new Check("ReadmeTest");
    private static final String[] CALLS = {
        "WordJudge()", "int word(int k, long w)", "void cut(int n)", "void context(int n)", "void put(int k, long v)",
        "int verify()", "int fault()", "long state(int k, int r, int what)", "long run()", "int count(int what)",
    };
    private static final String[][] THROWS = {
        {}, {"IndexOutOfBounds"}, {"IndexOutOfBounds"}, {"IllegalArgument"}, {"IndexOutOfBounds"},
        {"IllegalState"}, {}, {"IllegalArgument", "IllegalState", "IndexOutOfBounds"}, {"IllegalState"},
        {"IllegalArgument"},
    };

    /** The lines between the marks are those of README.md, letter by letter. */
    private static void example() {
        // example
        WordJudge x = new WordJudge();   // no CODE, an empty CONTEXT
        x.context(8);                    // the CONTEXT has 8 octets, all 0
        x.put(0, 41);                    // the first one is 41
        x.word(0, 0x0000000000001071L);  // D is R0: one octet from where R1 and OFF 0 point
        x.word(1, 0x0000000100000007L);  // R0 + 1
        x.word(2, 0x0000000000000095L);  // EXIT: R0 is what is told
        int found = x.verify();          // 0: no FAULT
        int where = x.fault();           // -1: so there is no WORD of it
        long kind = x.state(2, 0, 0);    // 1: before WORD 2 R0 is a NUMBER
        long low = x.state(2, 0, 1);     // 1: its low
        long high = x.state(2, 0, 2);    // 256: its high
        long told = x.run();             // 42: R0
        int steps = x.count(2);          // 3: STEPS of this run
        // end of the example
        CHECK.due("found", found, 0);
        CHECK.due("where", where, -1);
        CHECK.due("kind", kind, 1);
        CHECK.due("low", low, 1);
        CHECK.due("high", high, 256);
        CHECK.due("told", told, 42);
        CHECK.due("steps", steps, 3);
    }

    /** The lines between the first line that is from and the next that is to, without what is around them. */
    private static List<String> between(List<String> lines, String from, String to) {
        List<String> found = new ArrayList<>();
        boolean inside = false;
        for (String line : lines) {
            String text = line.strip();
            if (inside && text.equals(to)) {
                break;
            }
            if (inside) {
                found.add(text);
            }
            inside = inside || text.equals(from);
        }
        return found;
    }

    private static void dueSameExample(List<String> readme) throws IOException {
        List<String> own = Files.readAllLines(Path.of("src/test/java/ReadmeTest.java"));
        List<String> told = between(readme, "```java", "```");
        List<String> tried = between(own, "// example", "// end of the example");
        CHECK.due("lines of the example", told.size(), tried.size());
        for (int i = 0; i < told.size() && i < tried.size(); i++) {
            CHECK.due("example: " + told.get(i), told.get(i).equals(tried.get(i)) ? 1 : 0, 1);
        }
    }

    private static String rowOf(List<String> readme, String call) {
        for (String line : readme) {
            if (line.startsWith("| `" + call + "` |")) {
                return line;
            }
        }
        return "";
    }

    private static void dueEachCall(List<String> readme) {
        for (int i = 0; i < CALLS.length; i++) {
            String row = rowOf(readme, CALLS[i]);
            CHECK.due(CALLS[i] + " has a row", row.isEmpty() ? 0 : 1, 1);
            CHECK.due(CALLS[i] + " has its exceptions", row.split("Exception:", -1).length - 1, THROWS[i].length);
            int last = 0;
            for (String thrown : THROWS[i]) {
                int at = row.indexOf(thrown + "Exception:");
                CHECK.due(CALLS[i] + " names " + thrown + " in its order", at > last ? 1 : 0, 1);
                last = at;
            }
        }
    }

    private static void dueEachTest(List<String> readme) throws IOException {
        String text = String.join("\n", readme);
        CHECK.due(".ci/run is told", readme.contains(".ci/run") ? 1 : 0, 1);
        try (var files = Files.newDirectoryStream(Path.of("src/test/java"), "*.java")) {
            for (Path file : files) {
                String name = file.getFileName().toString().replace(".java", "");
                CHECK.due(name + " is told", text.contains("`" + name + "`") ? 1 : 0, 1);
            }
        }
    }

    public static void main(String[] args) throws IOException {
        List<String> readme = Files.readAllLines(Path.of("README.md"));
        example();
        dueSameExample(readme);
        dueEachCall(readme);
        dueEachTest(readme);
        CHECK.end();
    }
}
