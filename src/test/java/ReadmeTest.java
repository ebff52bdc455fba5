import java.io.IOException;
import java.nio.file.Files;
import java.nio.file.Path;
import java.util.List;

/** The example of README.md is run here, line by line, and has the answers that it tells. */
public final class ReadmeTest extends Checks {
    private static final Path OWN = Path.of("src/test/java/ReadmeTest.java");
    private static final Path README = Path.of("README.md");

    public static void main(String[] args) throws IOException {
        example();
        theSameLines();
        end();
    }

    private static void example() {
        // README begins
        TextRegions region = new TextRegions(12, 10, 0);
        int letter = region.symbol(3, 4);
        region.put(letter, 0, 0, true);
        int first = region.instance(letter, 1, 1);
        int second = region.instance(letter, 5, 2);
        region.refine(second, 1, 1, true);
        region.way(2, 1);
        int dark = region.compose();
        boolean isDark = region.at(6, 3);
        int bits = region.order(8);
        int bytes = region.write();
        int begin = region.byteAt(0);
        int came = region.pass();
        int read = region.read();
        int column = region.place(1, 1);
        // README ends
        due("letter", 0, () -> letter);
        due("first", 0, () -> first);
        due("second", 1, () -> second);
        due("dark", 3, () -> dark);
        due("isDark", true, () -> isDark);
        due("bits", 58, () -> bits);
        due("bytes", 8, () -> bytes);
        due("begin", 104, () -> begin);
        due("came", 8, () -> came);
        due("read", 2, () -> read);
        due("column", 5, () -> column);
    }

    private static void theSameLines() throws IOException {
        List<String> own = Files.readAllLines(OWN);
        String readme = Files.readString(README);
        int from = own.indexOf("        // README begins");
        int to = own.indexOf("        // README ends");
        due("README's example is marked here", true, () -> from >= 0 && to > from);
        for (int i = from + 1; i < to; i++) {
            String line = own.get(i).trim();
            due("README has " + line, true, () -> readme.contains("\n" + line));
        }
    }
}
