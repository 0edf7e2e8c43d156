import java.util.Arrays;

/** All promises: long runs of calls, right ones and wrong ones, on the program and on the model. */
public final class ModelTest {
    private static final int CALLS = 512;
    private static final String[] CHANGES = {"addOperation", "addOperation", "addOperation", "place", "rush", "rush",
        "remove", "swap", "swap", "swap", "setSetup", "breakdown", "repair", "setMagazine", "addJob", "addMachine"};
    private static final String[] QUESTIONS = {"placed", "placedAt", "startOf", "startByRounds", "lateness", "span",
        "slack", "slack", "criticals", "criticalAt", "setups", "loads"};

    /** A row of numbers that is the same in every run of the test. */
    private static long seed;

    public static void main(String[] args) {
        for (int run = 0; run < 120; run++) {
            seed = 77777L * run + 1;
            compare(run);
        }
        Checks.end();
    }

    private static int below(int bound) {
        seed = seed * 6364136223846793005L + 1442695040888963407L;
        return (int) ((seed >>> 33) % bound);
    }

    /** Mostly within the bounds, now and then next to them or far off. */
    private static int number(int least, int most) {
        int kind = below(40);
        if (kind == 0) {
            return least - 1;
        }
        if (kind == 1) {
            return most + 1;
        }
        if (kind == 2) {
            return below(2) == 0 ? Integer.MAX_VALUE : Integer.MIN_VALUE;
        }
        if (kind < 6) {
            return below(2) == 0 ? least : most;
        }
        return least + below(most - least + 1);
    }

    private static void compare(int run) {
        Boreplan plan = new Boreplan();
        Model model = new Model();
        int machines = 1 + run % 4;
        int jobs = 2 + run % 7;
        int span = run % 3 == 0 ? 400 : 60;
        for (int i = 0; i < CALLS; i++) {
            boolean change = i < 40 || below(4) == 0;
            String call = change ? CHANGES[below(CHANGES.length)] : QUESTIONS[below(QUESTIONS.length)];
            if (i < machines + jobs) {
                call = i < machines ? "addMachine" : "addJob";
            } else if (i < 40 && below(3) > 0) {
                call = "addOperation";
            } else if ((call.equals("addMachine") || call.equals("addJob")) && run % 5 > 0) {
                call = "span";
            }
            int[] given = arguments(call, machines, jobs, span);
            Object want = model.answer(call, given);
            Checks.due("run " + run + ", call " + i + ", " + call + Arrays.toString(given),
                    answer(plan, call, given), want);
        }
    }

    private static int[] arguments(String call, int machines, int jobs, int span) {
        int machine = number(0, machines - 1);
        int job = number(0, jobs - 1);
        switch (call) {
            case "setMagazine": return new int[] {machine, number(1, 8)};
            case "breakdown":
                int from = number(0, below(8) == 0 ? 9999 : span);
                return new int[] {machine, from, number(Math.min(from, 9999) + 1, below(8) == 0 ? 10000
                        : Math.min(from, 9999) + 1 + below(span))};
            case "addJob": return new int[] {number(0, below(4) == 0 ? 10000 : span)};
            case "addOperation":
                return new int[] {job, machine, number(1, span / 4), number(0, 3), number(0, 255) & number(0, 255)};
            case "setSetup": return new int[] {number(0, 3), number(0, 3), number(0, below(4) == 0 ? 60 : 5)};
            case "swap":
            case "placedAt": return new int[] {machine, number(0, 8)};
            case "startOf":
            case "startByRounds":
            case "slack": return new int[] {job, number(0, 3)};
            case "criticalAt": return new int[] {number(0, 8)};
            case "place":
            case "rush":
            case "remove":
            case "lateness": return new int[] {job};
            default: return new int[] {machine};
        }
    }

    private static Object answer(Boreplan plan, String call, int[] a) {
        try {
            return called(plan, call, a);
        } catch (RuntimeException e) {
            return Checks.nameOf(e);
        }
    }

    private static Object called(Boreplan plan, String call, int[] a) {
        switch (call) {
            case "addMachine": return plan.addMachine();
            case "setMagazine": return plan.setMagazine(a[0], a[1]);
            case "breakdown": return plan.breakdown(a[0], a[1], a[2]);
            case "repair": return plan.repair(a[0]);
            case "addJob": return plan.addJob(a[0]);
            case "addOperation": return plan.addOperation(a[0], a[1], a[2], a[3], a[4]);
            case "setSetup": return plan.setSetup(a[0], a[1], a[2]);
            case "place": return plan.place(a[0]);
            case "rush": return plan.rush(a[0]);
            case "remove": return plan.remove(a[0]);
            case "swap": return plan.swap(a[0], a[1]);
            case "placed": return plan.placed(a[0]);
            case "placedAt": return plan.placedAt(a[0], a[1]);
            case "startOf": return plan.startOf(a[0], a[1]);
            case "startByRounds": return plan.startByRounds(a[0], a[1]);
            case "lateness": return plan.lateness(a[0]);
            case "span": return plan.span();
            case "slack": return plan.slack(a[0], a[1]);
            case "criticals": return plan.criticals();
            case "criticalAt": return plan.criticalAt(a[0]);
            case "setups": return plan.setups(a[0]);
            case "loads": return plan.loads(a[0]);
            default: throw new IllegalStateException(call);
        }
    }
}
