import java.io.IOException;
import java.lang.reflect.Method;
import java.lang.reflect.Modifier;
import java.net.URL;
import java.net.URLClassLoader;
import java.nio.file.Files;
import java.nio.file.Path;
import java.util.ArrayList;
import java.util.List;
import java.util.function.Supplier;
import java.util.regex.Matcher;
import java.util.regex.Pattern;
import java.util.stream.Stream;
import javax.tools.ToolProvider;

/** What README.md shows is so: its example is compiled and run as it stands, and names every call of the class. */
public final class ReadmeTest {
    /** A call, with the variable that keeps its answer if there is one, and the answer that README.md tells. */
    private static final Pattern TOLD = Pattern.compile("(?:int (\\w+) = )?(.+); +// ([^:]+)(?::.*)?");
    private static final String NEW = "Boreplan plan = new Boreplan();";

    public static void main(String[] args) throws Exception {
        String readme = Files.readString(Path.of("README.md"));
        List<String> lines = blocks(readme);
        Path made = Files.createTempDirectory("readme");
        try {
            List<String> answers = run(program(lines), made);
            for (int i = 0; i < lines.size(); i++) {
                Checks.due("README.md: " + lines.get(i), answers.get(i), told(lines.get(i)));
            }
        } finally {
            delete(made);
        }
        everyCallIsShown(lines);
        everyTestIsNamed(readme);
        Checks.end();
    }

    /** The lines of all blocks of Java but the first one, which makes the object. */
    private static List<String> blocks(String readme) {
        List<String> lines = new ArrayList<>();
        boolean inside = false;
        for (String line : readme.split("\n")) {
            if (line.startsWith("```")) {
                inside = line.equals("```java");
            } else if (inside) {
                lines.add(line);
            }
        }
        Checks.due("the first line of the example", lines.isEmpty() ? "none" : lines.remove(0), NEW);
        return lines;
    }

    private static Matcher parts(String line) {
        Matcher parts = TOLD.matcher(line);
        if (!parts.matches()) {
            throw new IllegalStateException("README.md tells no answer: " + line);
        }
        return parts;
    }

    private static String told(String line) {
        return parts(line).group(3).trim();
    }

    /** A class that makes the calls one after the other and keeps what each of them answers or throws. */
    private static String program(List<String> lines) {
        StringBuilder text = new StringBuilder("public final class Readme implements java.util.function.Supplier<Object> {"
                + "\npublic Object get() {\njava.util.List<String> answers = new java.util.ArrayList<>();\n" + NEW + "\n");
        for (String line : lines) {
            Matcher parts = parts(line);
            if (parts.group(1) != null) {
                text.append(line).append("\nanswers.add(\"\" + ").append(parts.group(1)).append(");\n");
            } else {
                text.append("try {\nanswers.add(\"\" + ").append(parts.group(2)).append(");\n} catch (RuntimeException e)")
                        .append(" {\nanswers.add(\"throws \" + e.getClass().getSimpleName());\n}\n");
            }
        }
        return text.append("return answers;\n}\n}\n").toString();
    }

    @SuppressWarnings("unchecked")
    private static List<String> run(String program, Path made) throws Exception {
        Path source = Files.writeString(made.resolve("Readme.java"), program);
        int failed = ToolProvider.getSystemJavaCompiler().run(null, null, null, "-cp",
                System.getProperty("java.class.path"), "-d", made.toString(), source.toString());
        if (failed != 0) {
            throw new IllegalStateException("the example of README.md does not compile");
        }
        try (URLClassLoader loader = new URLClassLoader(new URL[] {made.toUri().toURL()})) {
            Object readme = loader.loadClass("Readme").getConstructor().newInstance();
            return (List<String>) ((Supplier<Object>) readme).get();
        }
    }

    private static void delete(Path made) throws IOException {
        try (Stream<Path> files = Files.list(made)) {
            for (Path file : files.toList()) {
                Files.delete(file);
            }
        }
        Files.delete(made);
    }

    /** Each call is shown with an answer, and each of the three exceptions is shown. */
    private static void everyCallIsShown(List<String> lines) {
        for (Method method : Boreplan.class.getDeclaredMethods()) {
            if (Modifier.isPublic(method.getModifiers())) {
                String call = "plan." + method.getName() + "(";
                boolean answered = lines.stream().anyMatch(l -> l.contains(call) && !told(l).startsWith("throws"));
                Checks.due("README.md shows " + call, answered, true);
            }
        }
        for (String name : new String[] {"IndexOutOfBounds", "IllegalArgument", "IllegalState"}) {
            boolean shown = lines.stream().anyMatch(l -> told(l).equals("throws " + name + "Exception"));
            Checks.due("README.md shows " + name, shown, true);
        }
    }

    private static void everyTestIsNamed(String readme) throws IOException {
        try (Stream<Path> files = Files.list(Path.of("src/test/java"))) {
            for (Path file : files.toList()) {
                String name = file.getFileName().toString().replace(".java", "");
                if (name.endsWith("Test") && !name.startsWith("EdgesOf")) {
                    Checks.due("README.md names " + name, readme.contains("`" + name + "`"), true);
                }
            }
        }
        Matcher named = Pattern.compile("`(\\w+Test)`").matcher(readme);
        while (named.find()) {
            Path file = Path.of("src/test/java", named.group(1) + ".java");
            Checks.due(file + " is there", Files.exists(file), true);
        }
    }
}
