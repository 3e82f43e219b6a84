import java.io.IOException;
import java.nio.file.Files;
import java.nio.file.Path;
import java.util.regex.Matcher;
import java.util.regex.Pattern;

/** The calls that README.md shows, in their order on one object: each has the answer that stands behind it. */
public final class ReadmeTest {
    private static final Pattern SHOWN = Pattern.compile("bench\\.(\\w+\\(.*\\)); +// (-?\\d+)(:.*)?");
    private static final Pattern DOUBLE = Pattern.compile("Double\\.doubleToRawLongBits\\(([^)]*)\\)");

    public static void main(String[] args) throws IOException {
        Due due = new Due();
        due.part("README.md");
        Asked bench = new Asked();
        int shown = 0;
        for (String row : Files.readAllLines(Path.of("README.md"))) {
            if (!row.startsWith("bench.")) continue;
            Matcher call = SHOWN.matcher(row);
            due.is("read: " + row, call.matches() ? 1 : 0, 1);
            if (call.matches()) {
                String told = DOUBLE.matcher(call.group(1)).replaceAll("d:$1");
                due.is(told, bench.ask(told), Long.parseLong(call.group(2)));
                shown++;
            }
        }
        due.is("calls are shown", shown > 0 ? 1 : 0, 1);
        due.end();
    }
}
