import java.io.IOException;
import java.lang.reflect.Constructor;
import java.lang.reflect.Executable;
import java.lang.reflect.Field;
import java.lang.reflect.Method;
import java.lang.reflect.Modifier;
import java.nio.file.Files;
import java.nio.file.Path;
import java.util.ArrayList;
import java.util.Arrays;
import java.util.List;
import java.util.Set;
import java.util.TreeSet;
import java.util.regex.Matcher;
import java.util.regex.Pattern;

/** The public face, and those rules of LANGUAGE.md that a look at the class and its text can tell. */
public final class FaceTest {
    private static final Due due = new Due("FaceTest");
    private static final Path SOURCE = Path.of("src/main/java/PitchRows.java");
    private static final String[] FACE = {
        "int callers(int,int,int,int)", "int ofCaller(int,int)", "int tune(int,int,int)",
        "int hears(int,int,int,int)", "int send(int,int,int)", "int unsend(int)", "int air(int)",
        "int listen(int,int)", "int loudest(int,int)", "int day(int,int,int,int,int)",
        "int peak(int,int)", "int clash(int,int)", "int rows()", "int ways(int,int)", "int next(int,int)",
        "int reading(int,int,int,int,int)", "int back(int)", "int kinds(int)", "int pitches(int,int)",
        "long odds(int,int,int)", "int sheet(int,int,int)", "int lose(int)", "int put(int,int,int)",
        "long cell(int,int,int)", "int copy(int,int,int,int,int)", "int tell(int)", "int hail(int)",
        "int as(int,int)", "int trace()", "int fault()", "int many(int)",
    };

    public static void main(String[] args) throws IOException {
        constants();
        theFace();
        theFaceAsTheDocumentTellsIt();
        classesInside();
        wordsThatAreLeftOut();
        whatIsMade();
        shortMethods();
        due.end();
    }

    private static void constants() {
        due.is("UNKNOWN", PitchRows.UNKNOWN, -1);
        due.is("OUTSIDE", PitchRows.OUTSIDE, -2);
        due.is("STATE", PitchRows.STATE, -3);
        due.is("FULL", PitchRows.FULL, -4);
        due.is("NONE", PitchRows.NONE, -9);
        due.is("LOST", PitchRows.LOST, Long.MIN_VALUE);
    }

    private static String told(Method m) {
        String[] types = Arrays.stream(m.getParameterTypes()).map(Class::getName).toArray(String[]::new);
        return m.getReturnType() + " " + m.getName() + "(" + String.join(",", types) + ")";
    }

    private static void theFace() {
        due.holds("public and final", Modifier.isPublic(PitchRows.class.getModifiers())
                && Modifier.isFinal(PitchRows.class.getModifiers()));
        Set<String> methods = new TreeSet<>();
        Set<String> names = new TreeSet<>();
        for (Method m : PitchRows.class.getDeclaredMethods()) {
            boolean isPublic = Modifier.isPublic(m.getModifiers());
            due.holds(m + " is public or private", isPublic || Modifier.isPrivate(m.getModifiers()));
            if (isPublic) {
                methods.add(told(m));
                names.add(m.getName());
                due.holds(m + " is of an object", !Modifier.isStatic(m.getModifiers()));
            }
        }
        due.holds("the methods: " + methods, methods.equals(new TreeSet<>(Arrays.asList(FACE))));
        Set<String> fields = new TreeSet<>();
        for (Field f : PitchRows.class.getDeclaredFields()) {
            boolean isPublic = Modifier.isPublic(f.getModifiers());
            due.holds(f + " is public or private", isPublic || Modifier.isPrivate(f.getModifiers()));
            if (isPublic) {
                fields.add(f.getType() + " " + f.getName());
                due.holds(f + " is a constant", Modifier.isStatic(f.getModifiers())
                        && Modifier.isFinal(f.getModifiers()));
            }
        }
        due.holds("the constants: " + fields, fields.equals(Set.of("int UNKNOWN", "int OUTSIDE", "int STATE",
                "int FULL", "int NONE", "long LOST")));
        Constructor<?>[] constructors = PitchRows.class.getDeclaredConstructors();
        due.holds("one public constructor without parameters", constructors.length == 1
                && constructors[0].getParameterCount() == 0 && Modifier.isPublic(constructors[0].getModifiers()));
        for (Class<?> c : allClasses()) {
            for (Method m : c.getDeclaredMethods()) {
                due.holds(m + " does not bear a public one's name",
                        c == PitchRows.class && Modifier.isPublic(m.getModifiers()) || !names.contains(m.getName()));
            }
        }
    }

    /** Each public line of the document's face stands in the class, and no other public one does. */
    private static void theFaceAsTheDocumentTellsIt() throws IOException {
        if (!Files.exists(Document.PLACE)) {
            return;
        }
        List<String> told = new ArrayList<>();
        for (String line : Files.readAllLines(Document.PLACE)) {
            if (line.strip().startsWith("public ")) {
                told.add(line.replaceFirst("\\);$", ") {"));
            }
        }
        List<String> written = new ArrayList<>();
        for (String line : sourceWithoutComments().split("\n")) {
            if (line.matches(".*\\bpublic\\b.*")) {
                written.add(line);
            }
        }
        due.is("public lines", written.size(), told.size());
        for (int i = 0; i < Math.min(told.size(), written.size()); i++) {
            due.holds("the document's " + told.get(i).strip() + ", the class's " + written.get(i).strip(),
                    told.get(i).equals(written.get(i)));
        }
    }

    private static List<Class<?>> allClasses() {
        List<Class<?>> all = new ArrayList<>(Arrays.asList(PitchRows.class.getDeclaredClasses()));
        all.add(PitchRows.class);
        return all;
    }

    private static void classesInside() {
        due.holds("twelve classes at most", allClasses().size() <= 12);
        for (Class<?> c : allClasses()) {
            if (c != PitchRows.class) {
                int modifiers = c.getModifiers();
                due.holds(c + " is static", Modifier.isStatic(modifiers));
                due.holds(c + " is hidden", !Modifier.isPublic(modifiers) && !Modifier.isProtected(modifiers));
                due.holds(c + " has no classes inside", c.getDeclaredClasses().length == 0);
            }
            int fields = 0;
            for (Field f : c.getDeclaredFields()) {
                boolean isStatic = Modifier.isStatic(f.getModifiers());
                due.holds(f + " is final, if static", !isStatic || Modifier.isFinal(f.getModifiers()));
                fields += isStatic ? 0 : 1;
            }
            due.holds(c + " has twenty fields at most", fields <= 20);
            List<Executable> code = new ArrayList<>(Arrays.asList(c.getDeclaredMethods()));
            code.addAll(Arrays.asList(c.getDeclaredConstructors()));
            for (Executable e : code) {
                due.holds(e + " takes seven parameters at most", e.getParameterCount() <= 7);
            }
        }
    }

    private static String sourceWithoutComments() throws IOException {
        String text = Files.readString(SOURCE);
        return text.replaceAll("(?s)/\\*.*?\\*/", "").replaceAll("//[^\n]*", "");
    }

    private static void wordsThatAreLeftOut() throws IOException {
        String text = sourceWithoutComments();
        String[] words = {"throw", "throws", "try", "catch", "finally", "synchronized", "assert", "volatile",
            "protected", "package", "var", "equals", "hashCode", "toString", "Exact", "Object", "Random", "System.in",
            "System.out", "System.nanoTime", "System.currentTimeMillis", "Thread", "double", "float", "yield"};
        for (String word : words) {
            due.holds("no " + word, !Pattern.compile("\\b" + Pattern.quote(word) + "\\b").matcher(text).find());
        }
        due.holds("no lambda", !text.contains("->"));
        due.holds("no method reference", !text.contains("::"));
        due.holds("no text joined", !text.contains("\""));
        Matcher imports = Pattern.compile("import ([^;]*);").matcher(text);
        while (imports.find()) {
            due.holds("import " + imports.group(1), imports.group(1).matches("java\\.util\\.(Arrays|ArrayList|List)"));
        }
    }

    /** All objects are made with a new PitchRows: none by a call, so none are kept by a long run. */
    private static void whatIsMade() throws IOException {
        for (String line : sourceWithoutComments().split("\n")) {
            boolean isField = line.matches(" +private final .*= new .*") || line.matches(" +final int\\[\\] .*= new .*")
                    || line.matches(" +final Caller\\[\\] .*= new .*");
            boolean isConstructors = line.matches(" +(sheets|callers)\\[k\\] = new .*");
            due.holds("made in a constructor: " + line, !line.contains("new ") || isField || isConstructors);
        }
    }

    private static void shortMethods() throws IOException {
        String[] lines = Files.readString(SOURCE).split("\n");
        Pattern head = Pattern.compile("^( {4}| {8})(?!return|new|else)[a-z].*\\) \\{$");
        for (int i = 0; i < lines.length; i++) {
            Matcher m = head.matcher(lines[i]);
            if (m.matches() && !lines[i].trim().matches("(if|for|while|switch|\\} else).*")) {
                int end = i;
                while (end < lines.length && !lines[end].equals(m.group(1) + "}")) {
                    end++;
                }
                due.holds("short: " + lines[i].trim(), end - i < 60);
            }
        }
    }
}
