import java.io.IOException;
import java.nio.file.Files;
import java.nio.file.Path;
import java.util.List;

/** The calls that README.md shows answer what it says. Run where .ci/run runs it, at the project's root. */
public final class ReadmeTest {
    private static List<String> lines;
    private static int next;

    private ReadmeTest() {
    }

    public static void main(String[] args) throws IOException {
        List<String> readme = Files.readAllLines(Path.of("README.md"));
        int start = readme.indexOf("```java") + 1;
        lines = readme.subList(start, start + readme.subList(start, readme.size()).indexOf("```"));
        next = 1;
        EndTables x = new EndTables(8, 8);
        Check.yes("the first line", lines.get(0).startsWith("EndTables x = new EndTables(8, 8);"));
        shown("x.size(false)", () -> x.size(false));
        shown("x.longest(4)", () -> x.longest(4));
        shown("x.count(4, 1, 32)", () -> x.count(4, 1, 32));
        shown("x.find(4, 1, 32, 0)", () -> x.find(4, 1, 32, 0));
        shown("x.distance(4, 0, 9, 10, 1)", () -> x.distance(4, 0, 9, 10, 1));
        shown("x.distance(4, 0, 18, 27, 1)", () -> x.distance(4, 0, 18, 27, 1));
        shown("x.set(1, 45, 50, 62, 0)", () -> x.set(1, 45, 50, 62, 0) ? 1 : 0);
        shown("x.left()", x::left);
        shown("x.moves()", x::moves);
        shown("x.move(0)", () -> x.move(0));
        shown("x.best()", x::best);
        shown("x.play(20146)", () -> x.play(20146));
        shown("x.about(0)", () -> x.about(0));
        shown("x.about(5)", () -> x.about(5));
        shown("x.run(2)", () -> x.run(2));
        shown("x.left()", x::left);
        shown("x.run(100)", () -> x.run(100));
        shown("x.left()", x::left);
        Check.yes("no line is left", next == lines.size());
        Check.end("ReadmeTest");
    }

    /** README's next line shows this call, and what it answers. */
    private static void shown(String call, Check.Call answer) {
        String line = next < lines.size() ? lines.get(next) : "";
        next++;
        boolean told = line.matches("\\S.*;\\s+// (-?\\d+|true): .*");
        Check.yes("README shows " + call + " next, with its answer: " + line, told && line.startsWith(call + ";"));
        if (told) {
            String said = line.substring(line.indexOf("// ") + 3, line.indexOf(':'));
            Check.due("README's " + call, said.equals("true") ? 1 : Long.parseLong(said), answer);
        }
    }
}
