import java.lang.reflect.Executable;
import java.lang.reflect.Field;
import java.lang.reflect.Modifier;
import java.nio.file.Files;
import java.nio.file.Path;
import java.util.ArrayList;
import java.util.List;
import java.util.Set;
import java.util.regex.Matcher;
import java.util.regex.Pattern;

/** The interface as the document prints it, and those rules of LANGUAGE.md that a look at the class can tell. */
public final class SourceTest {
    private static final Path SOURCE = Path.of("src/main/java/Boreplan.java");
    /** "Ahead of the calls ... the interface says: ----", and the public face with the names of its parameters. */
    private static final String INTERFACE = """
        public final class Boreplan
        public static final int NONE = -1;
        public Boreplan()
        // ---- machines, jobs, set-ups
        public int addMachine() throws IllegalStateException
        public int setMagazine(int machine, int capacity) throws IndexOutOfBoundsException, IllegalArgumentException, IllegalStateException
        public int breakdown(int machine, int from, int to) throws IndexOutOfBoundsException, IllegalArgumentException
        public boolean repair(int machine) throws IndexOutOfBoundsException
        public int addJob(int due) throws IllegalArgumentException, IllegalStateException
        public int addOperation(int job, int machine, int length, int family, int tools) throws IndexOutOfBoundsException, IllegalArgumentException, IllegalStateException
        public int setSetup(int family, int other, int minutes) throws IndexOutOfBoundsException, IllegalArgumentException
        // ---- placing
        public int place(int job) throws IndexOutOfBoundsException, IllegalStateException
        public int rush(int job) throws IndexOutOfBoundsException, IllegalStateException
        public int remove(int job) throws IndexOutOfBoundsException, IllegalStateException
        public int swap(int machine, int place) throws IndexOutOfBoundsException, IllegalStateException
        public int placed(int machine) throws IndexOutOfBoundsException
        public int placedAt(int machine, int place) throws IndexOutOfBoundsException
        // ---- times
        public int startOf(int job, int operation) throws IndexOutOfBoundsException, IllegalStateException
        public int startByRounds(int job, int operation) throws IndexOutOfBoundsException, IllegalStateException
        public int lateness(int job) throws IndexOutOfBoundsException, IllegalStateException
        public int span()
        public int slack(int job, int operation) throws IndexOutOfBoundsException, IllegalStateException
        public int criticals()
        public int criticalAt(int place) throws IndexOutOfBoundsException
        public int setups(int machine) throws IndexOutOfBoundsException
        public int loads(int machine) throws IndexOutOfBoundsException
        """;
    private static final Set<String> LIBRARY = Set.of("java.util.ArrayList", "java.util.List", "java.util.Arrays",
            "java.util.Iterator", "java.util.NoSuchElementException");
    private static final Set<Class<?>> CONSTANTS = Set.of(int.class, long.class, boolean.class, char.class,
            String.class, int[].class, long[].class, char[].class, byte[].class);
    private static final Pattern THROWN = Pattern.compile("throw new (IllegalState|IllegalArgument|IndexOutOfBounds"
            + "|Arithmetic|UnsupportedOperation|NoSuchElement|Runtime)Exception\\((\"\")?\\);");
    private static final String[] RULED_OUT = {"->", "::", "\\bpackage\\b", "\\bfinally\\b", "\\bsynchronized\\b",
        "\\bassert\\b", "\\bcatch\\b", "\\bstatic \\{", "\\w+Exact\\(", "\"\" *\\+", "\\+ *\"\"", "[\\w.]+\\.getMessage",
        "\\bSystem\\.(?!arraycopy)", "\\bThread\\b", "\\bObject\\b", "\\bnew Integer\\b", "hashCode", "toString"};

    public static void main(String[] args) throws Exception {
        String source = Files.readString(SOURCE);
        asTheDocumentPrintsIt(source.replaceAll("\\s+", " "));
        String code = source.replaceAll("(?s)/\\*.*?\\*/", "").replaceAll("//.*", "").replaceAll("\"[^\"]*\"", "\"\"");
        library(code);
        exceptions(code);
        for (String sign : RULED_OUT) {
            Matcher found = Pattern.compile(sign).matcher(code);
            Checks.due("ruled out", found.find() ? found.group() : "nothing", "nothing");
        }
        Checks.due("signs from 1 to 127 alone", source.chars().allMatch(c -> c > 0 && c < 128), true);
        lengths(source.split("\n"));
        classes();
        Checks.end();
    }

    /** Each line comes behind the one before it. */
    private static void asTheDocumentPrintsIt(String source) {
        int from = 0;
        for (String line : INTERFACE.strip().split("\n")) {
            int at = source.indexOf(line + (line.contains("(") ? " {" : ""), from);
            Checks.due("in its place: " + line, at >= 0, true);
            from = Math.max(from, at);
        }
    }

    /** Rule 4, as far as imports tell it. */
    private static void library(String code) {
        Matcher imports = Pattern.compile("import ([^;]+);").matcher(code);
        while (imports.find()) {
            Checks.due("import " + imports.group(1), LIBRARY.contains(imports.group(1)), true);
        }
        Checks.due("java. without an import", code.replaceAll("import [^;]+;", "").contains("java."), false);
    }

    /** Rule 6: "throw new E() or throw new E("a written text")" */
    private static void exceptions(String code) {
        Matcher all = Pattern.compile("\\bthrow\\b[^;]*;").matcher(code);
        while (all.find()) {
            Checks.due(all.group(), THROWN.matcher(all.group()).matches(), true);
        }
    }

    /** Rule 11: "Methods stay short (some sixty lines)" */
    private static void lengths(String[] lines) {
        for (int first = 0; first < lines.length; first++) {
            Matcher head = Pattern.compile("( {4}| {8})\\S.*\\{").matcher(lines[first]);
            if (head.matches() && !lines[first].contains(" class ")) {
                int last = first;
                while (!lines[last].equals(head.group(1) + "}")) {
                    last++;
                }
                Checks.due("the length of" + lines[first], last - first < 60, true);
            }
        }
    }

    /** Rule 5 and, of rule 11, how many parameters, fields and classes there are. */
    private static void classes() {
        List<Class<?>> all = new ArrayList<>(List.of(Boreplan.class.getDeclaredClasses()));
        all.add(Boreplan.class);
        Checks.due("at most twelve classes", all.size() <= 12, true);
        for (Class<?> one : all) {
            int own = 0;
            for (Field field : one.getDeclaredFields()) {
                boolean isStatic = Modifier.isStatic(field.getModifiers());
                boolean constant = Modifier.isFinal(field.getModifiers()) && CONSTANTS.contains(field.getType());
                Checks.due("a constant: " + field, !isStatic || constant, true);
                own += isStatic ? 0 : 1;
            }
            Checks.due("at most twenty fields of " + one, own <= 20, true);
            List<Executable> calls = new ArrayList<>(List.of(one.getDeclaredMethods()));
            calls.addAll(List.of(one.getDeclaredConstructors()));
            for (Executable call : calls) {
                Checks.due("at most seven parameters: " + call, call.getParameterCount() <= 7, true);
            }
        }
    }
}
