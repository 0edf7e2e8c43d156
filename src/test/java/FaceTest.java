import java.lang.reflect.Constructor;
import java.lang.reflect.Field;
import java.lang.reflect.Method;
import java.lang.reflect.Modifier;
import java.util.ArrayList;
import java.util.Collections;
import java.util.List;

/** The public face: the calls with their exceptions in the document's order, and nothing else to be seen. */
public final class FaceTest {
    private static final String I = "IndexOutOfBoundsException";
    private static final String A = "IllegalArgumentException";
    private static final String S = "IllegalStateException";
    private static final String[] FACE = {
        "int addMachine() " + S,
        "int setMagazine(int int) " + I + " " + A + " " + S,
        "int breakdown(int int int) " + I + " " + A,
        "boolean repair(int) " + I,
        "int addJob(int) " + A + " " + S,
        "int addOperation(int int int int int) " + I + " " + A + " " + S,
        "int setSetup(int int int) " + I + " " + A,
        "int place(int) " + I + " " + S,
        "int rush(int) " + I + " " + S,
        "int remove(int) " + I + " " + S,
        "int swap(int int) " + I + " " + S,
        "int placed(int) " + I,
        "int placedAt(int int) " + I,
        "int startOf(int int) " + I + " " + S,
        "int startByRounds(int int) " + I + " " + S,
        "int lateness(int) " + I + " " + S,
        "int span() ",
        "int slack(int int) " + I + " " + S,
        "int criticals() ",
        "int criticalAt(int) " + I,
        "int setups(int) " + I,
        "int loads(int) " + I,
    };

    public static void main(String[] args) {
        Checks.due("public and final", Boreplan.class.getModifiers(), Modifier.PUBLIC | Modifier.FINAL);
        methods();
        constructors();
        fields();
        classesInside();
        Checks.end();
    }

    private static String names(Class<?>[] types) {
        StringBuilder text = new StringBuilder();
        for (Class<?> type : types) {
            text.append(text.length() == 0 ? "" : " ").append(type.getSimpleName());
        }
        return text.toString();
    }

    private static void methods() {
        List<String> seen = new ArrayList<>();
        List<String> hidden = new ArrayList<>();
        for (Method method : Boreplan.class.getDeclaredMethods()) {
            if (Modifier.isPrivate(method.getModifiers())) {
                hidden.add(method.getName());
            } else {
                seen.add(method.getReturnType() + " " + method.getName() + "(" + names(method.getParameterTypes())
                        + ") " + names(method.getExceptionTypes()));
                Checks.due(method.getName(), method.getModifiers(), Modifier.PUBLIC);
            }
        }
        List<String> face = new ArrayList<>(List.of(FACE));
        Collections.sort(face);
        Collections.sort(seen);
        Checks.due("the face", seen, face);
        for (String call : FACE) {
            String name = call.substring(call.indexOf(' ') + 1, call.indexOf('('));
            Checks.due("a private method " + name, hidden.contains(name), false);
        }
    }

    private static void constructors() {
        Constructor<?>[] all = Boreplan.class.getDeclaredConstructors();
        Checks.due("constructors", all.length, 1);
        Checks.due("its modifiers", all[0].getModifiers(), Modifier.PUBLIC);
        Checks.due("its parameters", all[0].getParameterCount(), 0);
    }

    private static void fields() {
        for (Field field : Boreplan.class.getDeclaredFields()) {
            boolean constant = field.getName().equals("NONE");
            int hidden = field.getModifiers() & Modifier.PRIVATE;
            Checks.due(field.getName(), hidden != 0, !constant);
            if (constant) {
                Checks.due("NONE", field.getModifiers(), Modifier.PUBLIC | Modifier.STATIC | Modifier.FINAL);
                Checks.due("the type of NONE", field.getType(), int.class);
            }
        }
    }

    private static void classesInside() {
        for (Class<?> inside : Boreplan.class.getDeclaredClasses()) {
            int modifiers = inside.getModifiers();
            Checks.due(inside.getName() + " is seen", Modifier.isPublic(modifiers) || Modifier.isProtected(modifiers),
                    false);
            Checks.due(inside.getName() + " is static", Modifier.isStatic(modifiers), true);
        }
    }
}
