import java.io.IOException;
import java.lang.reflect.Method;
import java.lang.reflect.Modifier;
import java.nio.file.Files;
import java.nio.file.Path;
import java.util.Map;
import java.util.TreeMap;
import java.util.regex.Matcher;
import java.util.regex.Pattern;

/** Runs the calls that README.md tells, in their order, and looks at the answers it tells. */
public final class ReadmeTest {
    private static final Due due = new Due("ReadmeTest");
    private static final Path PAGE = Path.of("README.md");
    private static final Path THIS = Path.of("src/test/java/ReadmeTest.java");
    private static final Pattern CALL = Pattern.compile("x\\.(\\w+)\\(([^)]*)\\); +// (\\S+?):?(?: .*)?");
    private static final Pattern TEXT = Pattern.compile("told\\(x, \"([^\"]*)\"\\); +// (-?\\d+): .*");
    private static final String[] SAYS = {"new PitchRows()", "UNKNOWN", "OUTSIDE", "STATE", "FULL", "LOST", "NONE",
        "fault()", ".ci/run", "../shared/tests"};

    private static final Map<String, Method> face = new TreeMap<>();
    private static PitchRows rows;

    public static void main(String[] args) throws IOException, ReflectiveOperationException {
        for (Method method : PitchRows.class.getDeclaredMethods()) {
            if (Modifier.isPublic(method.getModifiers())) {
                face.put(method.getName(), method);
            }
        }
        for (String words : SAYS) {
            due.holds("the page says " + words, Files.readString(PAGE).contains(words));
        }
        boolean isCode = false;
        for (String line : Files.readAllLines(PAGE)) {
            if (line.startsWith("```")) {
                isCode = line.equals("```java");
            } else if (isCode) {
                run(line);
            }
        }
        due.end();
    }

    private static void run(String line) throws IOException, ReflectiveOperationException {
        Matcher call = CALL.matcher(line);
        Matcher text = TEXT.matcher(line);
        if (line.equals("PitchRows x = new PitchRows();")) {
            rows = new PitchRows();
        } else if (text.matches()) {
            due.is(line, told(rows, text.group(1)), Long.parseLong(text.group(2)));
        } else if (call.matches() && face.containsKey(call.group(1))) {
            due.is(line, answered(face.get(call.group(1)), call.group(2)), dueOf(call.group(3)));
        } else {
            due.holds("a call with its answer, or a line of told() below: " + line,
                    Files.readAllLines(THIS).contains("    " + line));
        }
    }

    static int told(PitchRows x, String text) {
        x.sheet(0, 0, text.length());
        for (int i = 0; i < text.length(); i++) {
            x.put(0, i, text.charAt(i));
        }
        return x.callers(0, 0, 0, text.length());
    }

    private static long answered(Method method, String told) throws ReflectiveOperationException {
        String[] parts = told.isEmpty() ? new String[0] : told.split(", ");
        Object[] args = new Object[parts.length];
        for (int i = 0; i < parts.length; i++) {
            boolean isSign = parts[i].startsWith("'");
            int number = isSign ? parts[i].charAt(1) : Integer.parseInt(parts[i]);
            args[i] = number;
        }
        return ((Number) method.invoke(rows, args)).longValue();
    }

    private static long dueOf(String told) throws ReflectiveOperationException {
        return told.matches("[A-Z]+")
                ? ((Number) PitchRows.class.getField(told).get(null)).longValue()
                : Long.parseLong(told);
    }
}
