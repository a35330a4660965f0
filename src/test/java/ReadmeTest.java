import java.io.IOException;
import java.lang.reflect.Method;
import java.lang.reflect.Modifier;
import java.nio.file.Files;
import java.nio.file.Path;
import java.util.List;
import java.util.regex.Matcher;
import java.util.regex.Pattern;

/** README.md: its example answers what it says, and its table has every call. Runs in the project's folder. */
public final class ReadmeTest {
    private static final Pattern ROW = Pattern.compile("ring\\.(\\w+)\\((.*)\\); +// (-?\\w+)(:.*)?");

    public static void main(String[] args) throws IOException {
        List<String> lines = Files.readAllLines(Path.of("README.md"));
        exampleAnswersWhatItSays(lines);
        tableHasEveryCall(lines);
        Check.end();
    }

    private static void exampleAnswersWhatItSays(List<String> lines) {
        int begin = lines.indexOf("KeyRing ring = new KeyRing();");
        Check.due("README.md has an example", begin >= 0, true);
        KeyRing ring = new KeyRing();
        for (int i = begin + 1; i < lines.size() && !lines.get(i).equals("```"); i++) {
            Matcher row = ROW.matcher(lines.get(i));
            if (row.matches()) {
                String call = (row.group(1) + " " + row.group(2).replace(",", "")).trim();
                Check.due(lines.get(i), Calls.answer(ring, call), row.group(3));
            } else {
                Check.tell("this row tells no answer: " + lines.get(i));
            }
        }
    }

    private static void tableHasEveryCall(List<String> lines) {
        for (Method m : KeyRing.class.getDeclaredMethods()) {
            if (Modifier.isPublic(m.getModifiers())) {
                String begin = "| `" + m.getName() + "(";
                long rows = lines.stream().filter(line -> line.startsWith(begin)).count();
                Check.due("rows of the table for " + m.getName(), rows, 1);
            }
        }
    }
}
