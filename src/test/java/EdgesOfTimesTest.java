/** The boundaries that the document names: of times (under 'Terms') and in promises 15 to 18. */
public final class EdgesOfTimesTest {
    public static void main(String[] args) {
        readyByItsJob();
        readyByItsMachine();
        readyByTheGreatestOfBoth();
        startOnceNoMinuteIsBroken();
        startByItsOwnMachine();
        finishByStartAndLength();
        spanByTheGreatestFinish();
        startOfNoJob();
        startOfNoOperation();
        startOnlyIfPlaced();
        roundsOfNoJob();
        roundsOfNoOperation();
        roundsOnlyIfPlaced();
        roundsUntilNoneHasToBeLater();
        latenessBehindTheDueMinute();
        latenessOfTheLastOperation();
        latenessOfNoJob();
        latenessOnlyIfPlaced();
        spanOfNothing();
        spanOfAll();
        Checks.end();
    }

    private static void starts(String when, Boreplan plan, int job, int operation, int want) {
        Checks.due("startOf(" + job + ", " + operation + ") " + when, plan.startOf(job, operation), want);
        Checks.due("startByRounds(" + job + ", " + operation + ") " + when, plan.startByRounds(job, operation), want);
    }

    /** Times: "the finish of the operation ahead of it in its job, or 0 for the first one" */
    private static void readyByItsJob() {
        for (int length : new int[] {1, 200}) {
            Boreplan plan = Shops.jobs(4, 1);
            for (int i = 0; i < 4; i++) {
                plan.addOperation(0, i, length, 0, 0);
            }
            plan.place(0);
            for (int i = 0; i < 4; i++) {
                starts("of the length " + length, plan, 0, i, i * length);
            }
        }
    }

    /**
     * Times: "and the finish of the operation ahead of it on its machine and the set-up from the family of that one to
     * its own, together, or, for the first one on the machine, the set-up from the family 0 to its own."
     */
    private static void readyByItsMachine() {
        for (int minutes : new int[] {0, 1, 60}) {
            Boreplan plan = Shops.machines(1);
            Shops.single(plan, 0, 5, 1);
            Shops.single(plan, 0, 5, 2);
            Shops.single(plan, 0, 5, 2);
            plan.setSetup(0, 1, minutes);
            starts("by the set-up from the family 0", plan, 0, 0, minutes);
            starts("by the one ahead, without a set-up", plan, 1, 0, minutes + 5);
            plan.setSetup(0, 1, 0);
            plan.setSetup(1, 2, minutes);
            starts("without a set-up", plan, 0, 0, 0);
            starts("by the one ahead and a set-up", plan, 1, 0, 5 + minutes);
            plan.setSetup(2, 2, minutes);
            starts("by a set-up from a family to itself", plan, 2, 0, 10 + 2 * minutes);
        }
    }

    /** An operation whose job is ready in the minute 10, on machine 1 behind one of a length; none if that is 0. */
    private static Boreplan behind(int length, int minutes) {
        Boreplan plan = Shops.jobs(3, 1);
        plan.setSetup(length > 0 ? 2 : 0, 1, minutes);
        plan.addOperation(0, 0, 10, 0, 0);
        plan.addOperation(0, 1, 5, 1, 0);
        if (length > 0) {
            Shops.single(plan, 1, length, 2);
        }
        plan.place(0);
        return plan;
    }

    /** Times: "The ready minute of a placed operation is the greatest of" both, where one is a minute less or more. */
    private static void readyByTheGreatestOfBoth() {
        for (int length = 8; length <= 12; length++) {
            starts("behind " + length, behind(length, 0), 0, 1, Math.max(10, length));
            starts("behind 4 and a set-up", behind(4, length - 4), 0, 1, Math.max(10, length));
            starts("with a set-up from the family 0", behind(0, length), 0, 1, Math.max(10, length));
        }
    }

    /**
     * Times: "Its start is the least minute from the ready minute on for which no minute from the start to its finish,
     * the finish not counted, is one of the breakdown of its machine." It is ready in the minute 10, for 5 minutes.
     */
    private static void startOnceNoMinuteIsBroken() {
        int[][] breakdowns = {{15, 20, 10}, {14, 20, 20}, {14, 15, 15}, {0, 10, 10}, {0, 11, 11}, {10, 11, 11},
            {9, 10, 10}, {9, 11, 11}, {12, 13, 13}, {10, 15, 15}, {9, 16, 16}, {0, 10000, 10000}, {9999, 10000, 10}};
        for (int[] broken : breakdowns) {
            Boreplan plan = behind(0, 0);
            plan.breakdown(1, broken[0], broken[1]);
            starts("with " + broken[0] + " to " + broken[1], plan, 0, 1, broken[2]);
        }
        int[][] ofOneMinute = {{0, 1, 1}, {1, 2, 0}, {0, 2, 2}};
        for (int[] broken : ofOneMinute) {
            Boreplan plan = Shops.row(1);
            plan.breakdown(0, broken[0], broken[1]);
            starts("a minute with " + broken[0] + " to " + broken[1], plan, 0, 0, broken[2]);
        }
    }

    /** Times: of the same sentence "the breakdown of its machine", not that of another one; nor is a set-up put off. */
    private static void startByItsOwnMachine() {
        Boreplan plan = behind(0, 0);
        plan.breakdown(2, 0, 10000);
        starts("a machine of others is broken", plan, 0, 1, 10);
        plan.breakdown(0, 0, 1);
        starts("the machine of the first one is broken", plan, 0, 1, 11);
        Boreplan setup = behind(4, 6);
        setup.breakdown(1, 4, 10);
        starts("the machine is broken as long as it is set up", setup, 0, 1, 10);
        setup.breakdown(1, 3, 9);
        starts("the one ahead is put off", setup, 0, 1, 19);
    }

    /** Times: "Its finish is the start and the length, together." */
    private static void finishByStartAndLength() {
        for (int length : new int[] {1, 2, 199, 200}) {
            Boreplan plan = Shops.row(length, 1);
            plan.breakdown(0, 0, 7);
            starts("behind the finish", plan, 1, 0, 7 + length);
            Checks.due("lateness(0) of the length " + length, plan.lateness(0), 7 + length);
        }
    }

    /** Times: "The span is the greatest finish of all placed operations; 0 without such." */
    private static void spanByTheGreatestFinish() {
        for (int length = 4; length <= 6; length++) {
            Boreplan plan = Shops.machines(4);
            Shops.single(plan, 3, 5, 0);
            Shops.single(plan, 0, length, 0);
            Shops.single(plan, 1, 1, 0);
            Checks.due("span() of 5 and " + length, plan.span(), Math.max(5, length));
            plan.remove(0);
            Checks.due("span() of " + length, plan.span(), length);
            plan.remove(1);
            Checks.due("span() of 1", plan.span(), 1);
            plan.remove(2);
            Checks.due("span() of none", plan.span(), 0);
        }
    }

    /** Promise 15: "Throws `IndexOutOfBoundsException` if there is no such job or operation", the job. */
    private static void startOfNoJob() {
        Edges.jobNumbers("startOf, job", jobs -> Shops.placedGrid(2, jobs), (p, j) -> p.startOf(j, 1));
    }

    /** Promise 15: "Throws `IndexOutOfBoundsException` if there is no such job or operation", the operation. */
    private static void startOfNoOperation() {
        Edges.operationNumbers("startOf, operation", (p, i) -> p.startOf(0, i));
        Edges.range("startOf of a job without operations", 0, -1, Edges.INDEX, Shops::placed,
                (p, i) -> p.startOf(2, i));
    }

    /** Promise 15: "Throws `IllegalStateException` if the job is not placed" */
    private static void startOnlyIfPlaced() {
        Edges.onlyIfPlaced("startOf", p -> p.startOf(1, 1));
    }

    /** Promise 16: "Throws `IndexOutOfBoundsException` if there is no such job or operation", the job. */
    private static void roundsOfNoJob() {
        Edges.jobNumbers("startByRounds, job", jobs -> Shops.placedGrid(2, jobs), (p, j) -> p.startByRounds(j, 1));
    }

    /** Promise 16: "Throws `IndexOutOfBoundsException` if there is no such job or operation", the operation. */
    private static void roundsOfNoOperation() {
        Edges.operationNumbers("startByRounds, operation", (p, i) -> p.startByRounds(0, i));
        Edges.range("startByRounds of a job without operations", 0, -1, Edges.INDEX, Shops::placed,
                (p, i) -> p.startByRounds(2, i));
    }

    /** Promise 16: "Throws `IllegalStateException` if the job is not placed" */
    private static void roundsOnlyIfPlaced() {
        Edges.onlyIfPlaced("startByRounds", p -> p.startByRounds(1, 1));
    }

    /**
     * Promise 16: "found by putting all starts later again and again, until none has to be": all 32 operations wait one
     * for the other, from machine to machine, down the numbers or up.
     */
    private static void roundsUntilNoneHasToBeLater() {
        for (int step : new int[] {1, 3}) {
            Boreplan plan = Shops.jobs(4, 8);
            int machine = 0;
            for (int i = 0; i < 32; i++) {
                plan.addOperation(i / 4, machine, 200, 0, 0);
                // the first one of the next job waits on the machine of the last one of this job
                machine = i % 4 == 3 ? machine : (machine + step) % 4;
            }
            for (int job = 0; job < 8; job++) {
                plan.place(job);
            }
            for (int i = 0; i < 32; i++) {
                starts("in a chain of 32", plan, i / 4, i % 4, 200 * i);
            }
        }
    }

    /**
     * Promise 17: "Returns by how many minutes the last operation of a job finishes behind its due minute; 0 if it does
     * not."
     */
    private static void latenessBehindTheDueMinute() {
        int[][] late = {{0, 5}, {3, 2}, {4, 1}, {5, 0}, {6, 0}, {10000, 0}};
        for (int[] due : late) {
            Boreplan plan = Shops.machines(1);
            plan.addJob(due[0]);
            plan.addOperation(0, 0, 5, 0, 0);
            plan.place(0);
            Checks.due("lateness(0), due " + due[0], plan.lateness(0), due[1]);
        }
    }

    /** Promise 17: of the same sentence "the last operation of a job", which finishes in the minute 9, not at 5. */
    private static void latenessOfTheLastOperation() {
        int[][] late = {{4, 5}, {5, 4}, {6, 3}, {8, 1}, {9, 0}};
        for (int[] due : late) {
            Boreplan plan = Shops.machines(2);
            plan.addJob(due[0]);
            plan.addOperation(0, 0, 5, 0, 0);
            plan.addOperation(0, 1, 4, 0, 0);
            plan.place(0);
            Shops.single(plan, 1, 100, 0);
            Checks.due("lateness(0), due " + due[0], plan.lateness(0), due[1]);
        }
    }

    /** Promise 17: "Throws `IndexOutOfBoundsException` if there is no such job" */
    private static void latenessOfNoJob() {
        Edges.jobNumbers("lateness", jobs -> Shops.placedGrid(2, jobs), (p, j) -> p.lateness(j));
    }

    /** Promise 17: "Throws `IllegalStateException` if it is not placed" */
    private static void latenessOnlyIfPlaced() {
        Edges.onlyIfPlaced("lateness", p -> p.lateness(1));
        Checks.refused("lateness without operations", Edges.STATE, Shops::placed, p -> p.lateness(2));
    }

    /** Promise 18: "Returns the span.", which is "0 without such" operations that are placed. */
    private static void spanOfNothing() {
        Checks.due("a new object", new Boreplan().span(), 0);
        Checks.due("jobs that wait", Shops.grid(4, 8).span(), 0);
        Boreplan plan = Shops.row(1);
        Checks.due("one that is placed", plan.span(), 1);
        plan.remove(0);
        plan.breakdown(0, 0, 10000);
        plan.setSetup(0, 0, 60);
        Checks.due("one that is removed", plan.span(), 0);
    }

    /** Promise 18: "Returns the span.", the greatest that there can be: all operations, as late and long as they go. */
    private static void spanOfAll() {
        for (int kind = 0; kind < 2; kind++) {
            Boreplan plan = Shops.jobs(1, 8);
            plan.setSetup(0, 0, 60);
            plan.breakdown(0, 259, 10000);
            for (int i = 0; i < 32; i++) {
                plan.addOperation(i / 4, 0, 200, 0, 0);
            }
            int span = 0;
            for (int job = 0; job < 8; job++) {
                span = kind == 0 ? plan.place(job) : plan.rush(job);
            }
            Checks.due("the last place or rush", span, 18260);
            Checks.due("span()", plan.span(), 18260);
        }
    }
}
