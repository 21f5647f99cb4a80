import java.io.IOException;
import java.lang.reflect.Method;
import java.lang.reflect.Modifier;
import java.nio.file.Files;
import java.nio.file.Path;
import java.util.Set;
import java.util.TreeSet;
import java.util.regex.Matcher;
import java.util.regex.Pattern;

/** What README.md tells of answers is what the program answers; the example lines are run from the top down. */
public final class ReadmeTest {
    private static final Pattern CALL =
        Pattern.compile("x\\.(\\w+)\\(([-0-9, ]*)\\); +// (-?\\d+|[A-Z]+_[A-Z]+|NONE)(: .*)?");
    private static final Pattern TEXT = Pattern.compile("write\\(x, \"([^\"]*)\"\\);");
    private static final Pattern ROW = Pattern.compile("\\| `(\\w+)\\(([\\w, ]*)\\)` \\|.*");

    public static void main(String[] args) throws IOException, ReflectiveOperationException {
        String[] lines = Files.readString(Path.of("README.md")).split("\n");
        examples(lines);
        table(lines);
        Checks.end();
    }

    private static void examples(String[] lines) throws ReflectiveOperationException {
        CrustBlocks x = new CrustBlocks();
        int calls = 0;
        for (String line : lines) {
            Matcher call = CALL.matcher(line);
            Matcher text = TEXT.matcher(line);
            if (call.matches()) {
                Checks.due("README.md: " + line, answer(x, call.group(1), call.group(2)), due(call.group(3)));
                calls++;
            } else if (text.matches()) {
                Checks.write(x, text.group(1));
            } else {
                boolean skipped = line.startsWith("x.") || line.startsWith("write(");
                Checks.due("README.md: an example that is not run: " + line, skipped ? 1 : 0, 0);
            }
        }
        Checks.due("README.md has examples", calls >= 20 ? 1 : 0, 1);
    }

    private static int answer(CrustBlocks x, String name, String arguments) throws ReflectiveOperationException {
        String[] told = arguments.isEmpty() ? new String[0] : arguments.split(", ");
        Class<?>[] types = new Class<?>[told.length];
        Object[] values = new Object[told.length];
        for (int n = 0; n < told.length; n++) {
            types[n] = int.class;
            values[n] = Integer.valueOf(told[n]);
        }
        return (Integer) CrustBlocks.class.getMethod(name, types).invoke(x, values);
    }

    private static int due(String told) throws ReflectiveOperationException {
        return Character.isLetter(told.charAt(0)) ? CrustBlocks.class.getField(told).getInt(null) : Integer.parseInt(told);
    }

    /** Each call of the class has a row, and each row is a call. */
    private static void table(String[] lines) {
        Set<String> rows = new TreeSet<>();
        for (String line : lines) {
            Matcher row = ROW.matcher(line);
            if (row.matches()) {
                rows.add(row.group(1) + "/" + (row.group(2).isEmpty() ? 0 : row.group(2).split(", ").length));
            }
        }
        Set<String> calls = new TreeSet<>();
        for (Method method : CrustBlocks.class.getDeclaredMethods()) {
            if (Modifier.isPublic(method.getModifiers())) {
                calls.add(method.getName() + "/" + method.getParameterCount());
            }
        }
        Checks.dueSame("README.md: calls with a row", rows.toString(), calls.toString());
    }
}
