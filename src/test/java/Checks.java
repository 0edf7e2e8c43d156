import java.util.function.Consumer;
import java.util.function.Supplier;

/** What the tests share: it counts the answers that are not due, and tells the state of an object as a text. */
final class Checks {
    private static int wrong = 0;
    private static int made = 0;

    private Checks() {
    }

    static void due(String call, Object got, Object want) {
        made++;
        if (!got.equals(want)) {
            wrong++;
            System.out.println(call + " answered " + got + ", due is " + want);
        }
    }

    /** The call must throw exactly this exception, and the object must be as one without the call. */
    static void refused(String call, Class<?> want, Supplier<Boreplan> shop, Consumer<Boreplan> act) {
        Boreplan tried = shop.get();
        due(call, thrownBy(() -> act.accept(tried)), want.getSimpleName());
        due("the state behind " + call, state(tried), state(shop.get()));
    }

    static String thrownBy(Runnable act) {
        try {
            act.run();
            return "nothing";
        } catch (RuntimeException e) {
            return nameOf(e);
        }
    }

    /** Its simple name, marked if a throw statement of the program is not where it comes from. */
    static String nameOf(RuntimeException e) {
        StackTraceElement[] trace = e.getStackTrace();
        boolean own = trace.length > 0 && "Boreplan.java".equals(trace[0].getFileName());
        return e.getClass().getSimpleName() + (own ? "" : " that the program does not throw itself");
    }

    /** Everything that an object answers. The object is spent then: set-ups and the like are asked by changing them. */
    static String state(Boreplan plan) {
        StringBuilder text = new StringBuilder();
        text.append("span ").append(plan.span()).append(" path ").append(path(plan));
        for (int m = 0; m < 4; m++) {
            machine(text, plan, m);
        }
        for (int j = 0; j < 8; j++) {
            job(text, plan, j);
        }
        text.append("\nspan with all jobs");
        for (int j = 0; j < 8; j++) {
            int job = j;
            text.append(' ').append(thrownBy(() -> text.append(plan.place(job))));
        }
        text.append("\nset-ups");
        for (int i = 0; i < 16; i++) {
            text.append(' ').append(plan.setSetup(i / 4, i % 4, 0));
        }
        for (int m = 0; m < 4; m++) {
            int machine = m;
            text.append(thrownBy(() -> text.append(plan.repair(machine) ? " broken " : " whole ")));
        }
        return text.toString();
    }

    /** The operations of a machine. */
    static String row(Boreplan plan, int machine) {
        StringBuilder text = new StringBuilder();
        for (int i = 0; i < plan.placed(machine); i++) {
            text.append(i == 0 ? "" : " ").append(plan.placedAt(machine, i));
        }
        return text.toString();
    }

    /** The operations of the critical path. */
    static String path(Boreplan plan) {
        StringBuilder text = new StringBuilder();
        for (int i = 0; i < plan.criticals(); i++) {
            text.append(i == 0 ? "" : " ").append(plan.criticalAt(i));
        }
        return text.toString();
    }

    private static void machine(StringBuilder text, Boreplan plan, int m) {
        try {
            text.append("\nmachine ").append(m).append(": ").append(row(plan, m));
            text.append(" setups ").append(plan.setups(m)).append(" loads ").append(plan.loads(m));
            text.append(" capacity ").append(plan.setMagazine(m, 8));
        } catch (IndexOutOfBoundsException e) {
            text.append(" no machine ").append(m);
        }
    }

    private static void job(StringBuilder text, Boreplan plan, int j) {
        try {
            text.append("\njob ").append(j).append(" late ").append(plan.lateness(j)).append(':');
        } catch (IndexOutOfBoundsException e) {
            text.append(" none");
            return;
        } catch (IllegalStateException e) {
            text.append(" not placed");
        }
        for (int i = 0; i < 4; i++) {
            try {
                text.append(' ').append(plan.startOf(j, i)).append('/').append(plan.startByRounds(j, i));
                text.append('/').append(plan.slack(j, i));
            } catch (IllegalStateException e) {
                text.append(" waiting");
            } catch (IndexOutOfBoundsException e) {
                text.append(" end");
                return;
            }
        }
    }

    static void end() {
        System.out.println(wrong == 0 ? made + " answers are as due" : wrong + " answers are not as due");
        if (wrong != 0) {
            System.exit(1);
        }
    }
}
