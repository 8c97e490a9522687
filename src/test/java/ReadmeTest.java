import java.io.IOException;
import java.nio.file.Files;
import java.nio.file.Path;
import java.util.TreeSet;
import java.util.regex.Matcher;
import java.util.regex.Pattern;

/** The calls in README.md, in their order on one object, with the answers that stand behind them. */
public final class ReadmeTest {
    private static final Pattern CALL =
            Pattern.compile("x\\.(\\w+)\\(([^)]*)\\); +// (-?\\d+|throws \\w+)(?![\\w.]).*");

    public static void main(String[] args) throws IOException {
        RecordLayouts x = new RecordLayouts();
        TreeSet<String> shown = new TreeSet<>();
        for (String line : Files.readAllLines(Path.of("README.md"))) {
            if (!line.startsWith("x.")) {
                continue;
            }
            Matcher m = CALL.matcher(line);
            Check.due("README.md has a call with its answer: " + line, m.matches(), true);
            if (m.matches()) {
                shown.add(m.group(1));
                String got = Call.answer(x, m.group(1), arguments(m.group(2))).toString();
                Check.due("README.md: " + line, got, m.group(3).replace(' ', '.'));
            }
        }
        Check.due("methods that README.md shows", shown, Call.methods(RecordLayouts.class).keySet());
        Check.finish();
    }

    private static Object[] arguments(String written) {
        String[] words = written.isEmpty() ? new String[0] : written.split(", ");
        Object[] values = new Object[words.length];
        for (int i = 0; i < words.length; i++) {
            if (words[i].equals("true") || words[i].equals("false")) {
                values[i] = Boolean.valueOf(words[i]);
            } else {
                values[i] = words[i].startsWith("'") ? words[i].charAt(1) : Long.parseLong(words[i]);
            }
        }
        return values;
    }
}
