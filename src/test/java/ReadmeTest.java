import java.io.IOException;
import java.nio.file.Files;
import java.nio.file.Path;
import java.util.ArrayList;
import java.util.List;

/** The calls that README.md shows, with the answers that it tells behind "->"; and that its table has every test. */
public final class ReadmeTest {
    private static final Due due = new Due();

    private static Path rootFile(String name) {
        String source = System.getenv("CRADLE_SOURCE");
        Path main = Path.of(source == null ? "src/main/java/CradleNames.java" : source).toAbsolutePath().normalize();
        return main.resolve("../../../../" + name).normalize();
    }

    /** What stands in the example, call by call, as "call -> answer". */
    private static List<String> shown(String readme) {
        List<String> calls = new ArrayList<>();
        for (String line : readme.split("\n")) {
            int call = line.indexOf("x.");
            int answer = line.indexOf("// -> ");
            if (call >= 0 && answer > call) {
                String told = line.substring(answer + 6).trim();
                int rest = told.indexOf(' ');
                String number = rest < 0 ? told : told.substring(0, rest).replace(":", "");
                calls.add(line.substring(call, line.lastIndexOf(';', answer)).trim() + " -> " + number);
            }
        }
        return calls;
    }

    /** The same calls, done. */
    private static List<String> done() {
        CradleNames x = new CradleNames();
        List<String> calls = new ArrayList<>();
        int emma = x.name(46501L, 1);
        calls.add("x.name(46501L, 1) -> " + emma);
        calls.add("x.cradles(0, 0, 0, 2) -> " + x.cradles(0, 0, 0, 2));
        calls.add("x.feed(0x776f7274, 0x68203130, 0x2d6e6561, 0x723b2020, 0x20202020) -> "
                + x.feed(0x776f7274, 0x68203130, 0x2d6e6561, 0x723b2020, 0x20202020));
        calls.add("x.end(14) -> " + x.end(14));
        int taste = x.taste();
        calls.add("x.taste() -> " + taste);
        calls.add("x.by(0, taste) -> " + x.by(0, taste));
        calls.add("x.now(0, 0, 0, 1) -> " + x.now(0, 0, 0, 1));
        calls.add("x.years(1) -> " + x.years(1));
        calls.add("x.given(0, 0, -1, -1, emma) -> " + x.given(0, 0, -1, -1, emma));
        calls.add("x.shape(emma, 0) -> " + x.shape(emma, 0));
        calls.add("x.years(61) -> " + x.years(61));
        return calls;
    }

    private static void table(String readme) throws IOException {
        try (var files = Files.list(rootFile("src/test/java"))) {
            for (Path file : files.toList()) {
                String name = file.getFileName().toString().replace(".java", "");
                if (name.endsWith("Test")) {
                    due.is("the table has " + name, readme.contains("| `" + name + "` |"), true);
                }
            }
        }
    }

    public static void main(String[] args) throws IOException {
        String readme = Files.readString(rootFile("README.md"));
        List<String> shown = shown(readme);
        List<String> done = done();
        due.is("calls shown", shown.size(), done.size());
        for (int i = 0; i < Math.min(shown.size(), done.size()); i++) {
            due.is("shown: " + shown.get(i) + ", done: " + done.get(i), shown.get(i).equals(done.get(i)), true);
        }
        table(readme);
        due.end();
    }
}
