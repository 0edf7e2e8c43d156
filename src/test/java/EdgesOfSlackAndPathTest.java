/** The boundaries that the document names: of slack and the critical path (under 'Terms') and in promises 19 to 21. */
public final class EdgesOfSlackAndPathTest {
    public static void main(String[] args) {
        latestFinishByTheSpan();
        latestFinishByItsJob();
        latestFinishByItsMachine();
        latestFinishByTheLeastOfBoth();
        latestStartOnceNoMinuteIsBroken();
        slackFromZero();
        slackOfNoJob();
        slackOfNoOperation();
        slackOnlyIfPlaced();
        pathEndsInTheLowestJob();
        pathEndsInOneOperationOfAJob();
        pathGoesByTheJobFirst();
        pathGoesByTheMachineOtherwise();
        pathBeginsOtherwise();
        noCriticalsIfNoneArePlaced();
        criticalAtTheFirstOneFirst();
        criticalAtTenTimesTheJob();
        criticalAtNoPlace();
        Checks.end();
    }

    /** Slack: "The latest finish of a placed operation is the least of: the span" and others that are not there. */
    private static void latestFinishByTheSpan() {
        for (int length = 4; length <= 6; length++) {
            Boreplan plan = Shops.machines(2);
            Shops.single(plan, 0, 5, 0);
            Shops.single(plan, 1, length, 0);
            Checks.due("slack of 5 next to " + length, plan.slack(0, 0), Math.max(0, length - 5));
            Checks.due("slack of " + length + " next to 5", plan.slack(1, 0), Math.max(0, 5 - length));
        }
    }

    /** Machines, the last of which has one operation of 20 minutes, as job 0. */
    private static Boreplan spanOf20(int machines) {
        Boreplan plan = Shops.machines(machines);
        Shops.single(plan, machines - 1, 20, 0);
        return plan;
    }

    /** Slack: "the latest start of the operation behind it in its job" */
    private static void latestFinishByItsJob() {
        for (int length = 1; length <= 15; length++) {
            Boreplan plan = spanOf20(3);
            plan.addJob(0);
            plan.addOperation(1, 0, 5, 0, 0);
            plan.addOperation(1, 1, length, 0, 0);
            plan.place(1);
            Checks.due("slack of the last one, of " + length, plan.slack(1, 1), 15 - length);
            Checks.due("slack of the one ahead of " + length, plan.slack(1, 0), 15 - length);
            if (length < 15) {
                plan.breakdown(1, 19, 20);
                Checks.due("the last one must be done at 19", plan.slack(1, 0), 14 - length);
            }
        }
    }

    /**
     * Slack: "and the latest start of the one behind it on its machine, less the set-up from its own family to that of
     * the other one."
     */
    private static void latestFinishByItsMachine() {
        for (int minutes : new int[] {0, 1, 9, 10, 11, 60}) {
            Boreplan plan = spanOf20(2);
            plan.setSetup(1, 2, minutes);
            plan.setSetup(2, 1, 3);
            Shops.single(plan, 0, 5, 1);
            Shops.single(plan, 0, 5, 2);
            int left = Math.max(0, 10 - minutes);
            Checks.due("slack of the last one behind " + minutes, plan.slack(2, 0), left);
            Checks.due("slack of the one ahead of " + minutes, plan.slack(1, 0), left);
            Checks.due("slack of the other machine", plan.slack(0, 0), Math.max(0, minutes - 10));
        }
    }

    /** Slack: "the least of" both: behind it are one of its job and one of its machine, of lengths near each other. */
    private static void latestFinishByTheLeastOfBoth() {
        for (int length = 8; length <= 10; length++) {
            for (int minutes = 0; minutes <= 1; minutes++) {
                Boreplan plan = spanOf20(3);
                plan.setSetup(1, 2, minutes);
                plan.addJob(0);
                plan.addOperation(1, 0, 5, 1, 0);
                plan.addOperation(1, 1, 9, 0, 0);
                plan.place(1);
                Shops.single(plan, 0, length, 2);
                int least = Math.min(20 - 9, 20 - length - minutes) - 5;
                Checks.due("slack ahead of 9 and " + length + " with " + minutes, plan.slack(1, 0), least);
            }
        }
    }

    /**
     * Slack: "Its latest start is the greatest minute, not later than the latest finish less its length, for which no
     * minute from it on, as many as the length, is one of the breakdown." Without it that is the minute 20 less the
     * length; the start is 0.
     */
    private static void latestStartOnceNoMinuteIsBroken() {
        int[][] ofFive = {{20, 30, 15}, {19, 30, 14}, {19, 20, 14}, {18, 19, 13}, {16, 17, 11}, {15, 16, 10},
            {14, 15, 15}, {10, 15, 15}, {10, 16, 5}, {5, 15, 15}, {5, 16, 0}, {6, 16, 1}, {5, 10000, 0},
            {6, 10000, 1}, {9999, 10000, 15}};
        int[][] ofOne = {{20, 21, 19}, {19, 20, 18}, {18, 19, 19}, {1, 19, 19}, {1, 20, 0}, {2, 20, 1}};
        for (int[] broken : ofFive) {
            slackWith(5, broken[0], broken[1], broken[2]);
        }
        for (int[] broken : ofOne) {
            slackWith(1, broken[0], broken[1], broken[2]);
        }
    }

    private static void slackWith(int length, int from, int to, int want) {
        Boreplan plan = spanOf20(2);
        Shops.single(plan, 0, length, 0);
        Checks.due("span()", plan.breakdown(0, from, to), 20);
        Checks.due("slack of " + length + " with " + from + " to " + to, plan.slack(1, 0), want);
    }

    /** Slack: "Its slack is the latest start less the start.", which is 0 on a chain to the span. */
    private static void slackFromZero() {
        Boreplan plan = Shops.row(5, 6, 7);
        plan.addMachine();
        Shops.single(plan, 1, 17, 0);
        for (int job = 0; job < 3; job++) {
            Checks.due("on the chain", plan.slack(job, 0), 0);
        }
        Checks.due("a minute shorter than the span", plan.slack(3, 0), 1);
        plan.breakdown(1, 0, 1);
        Checks.due("a minute later", plan.slack(3, 0), 0);
        plan.breakdown(1, 0, 2);
        Checks.due("two minutes later", plan.slack(3, 0), 0);
        Checks.due("then the chain has a minute", plan.slack(0, 0), 1);
        plan.breakdown(0, 18, 19);
        Checks.due("which is broken", plan.slack(0, 0), 0);
    }

    /** Promise 19: "Throws `IndexOutOfBoundsException` if there is no such job or operation", the job. */
    private static void slackOfNoJob() {
        Edges.jobNumbers("slack, job", jobs -> Shops.placedGrid(2, jobs), (p, j) -> p.slack(j, 1));
    }

    /** Promise 19: "Throws `IndexOutOfBoundsException` if there is no such job or operation", the operation. */
    private static void slackOfNoOperation() {
        Edges.operationNumbers("slack, operation", (p, i) -> p.slack(0, i));
        Edges.range("slack of a job without operations", 0, -1, Edges.INDEX, Shops::placed, (p, i) -> p.slack(2, i));
    }

    /** Promise 19: "Throws `IllegalStateException` if the job is not placed" */
    private static void slackOnlyIfPlaced() {
        Edges.onlyIfPlaced("slack", p -> p.slack(1, 1));
    }

    /**
     * Critical path: "Of the operations whose finish is the span, that of the job with the lowest number comes last";
     * the operation of each job is on a machine of its own.
     */
    private static void pathEndsInTheLowestJob() {
        int[][] ends = {{10, 10, 10, 0}, {10, 9, 9, 0}, {10, 9, 10, 0}, {9, 10, 10, 10}, {9, 10, 9, 10},
            {9, 9, 10, 20}};
        for (int[] end : ends) {
            Boreplan plan = Shops.jobs(3, 3);
            for (int job = 2; job >= 0; job--) {
                plan.addOperation(job, 2 - job, end[job], 0, 0);
                plan.place(job);
            }
            Checks.due("the path", Checks.path(plan), "" + end[3]);
        }
        Boreplan waits = Shops.jobs(1, 2);
        waits.addOperation(0, 0, 10, 0, 0);
        waits.addOperation(1, 0, 10, 0, 0);
        waits.place(0);
        waits.remove(0);
        waits.place(1);
        Checks.due("a removed job is not looked at", Checks.path(waits), "10");
    }

    /** Critical path: "(and of that job the one with the lowest number)": all but one of a job finish sooner. */
    private static void pathEndsInOneOperationOfAJob() {
        for (int count = 1; count <= 4; count++) {
            Boreplan plan = Shops.jobs(4, 1);
            for (int i = 0; i < count; i++) {
                plan.addOperation(0, 3 - i, 1, 0, 0);
            }
            plan.place(0);
            Checks.due("the path", Checks.path(plan), "0 1 2 3".substring(0, 2 * count - 1));
        }
    }

    /** Job 0 is on machine 1 for a length; job 1 runs from 0 to 5 on machine 0 and then on machine 1. */
    private static Boreplan meeting(int length, int minutes) {
        Boreplan plan = Shops.machines(2);
        plan.setSetup(2, 1, minutes);
        Shops.single(plan, 1, length, 2);
        plan.addJob(0);
        plan.addOperation(1, 0, 5, 0, 0);
        plan.addOperation(1, 1, 5, 1, 0);
        plan.place(1);
        return plan;
    }

    /**
     * Critical path: "From an operation of the path one goes back to the one ahead of it in its job, if that finishes
     * at its start"
     */
    private static void pathGoesByTheJobFirst() {
        Checks.due("the machine is free sooner", Checks.path(meeting(4, 0)), "10 11");
        Checks.due("both at once", Checks.path(meeting(5, 0)), "10 11");
        Checks.due("both at once, with a set-up", Checks.path(meeting(4, 1)), "10 11");
        Checks.due("the machine is free later", Checks.path(meeting(6, 0)), "0 11");
        Checks.due("the machine is set up later", Checks.path(meeting(5, 1)), "0 11");
    }

    /**
     * Critical path: "otherwise to the one ahead of it on its machine, if the finish of that and the set-up are
     * together its start"
     */
    private static void pathGoesByTheMachineOtherwise() {
        Boreplan plan = meeting(6, 3);
        plan.breakdown(1, 6, 9);
        Checks.due("a breakdown as long as the set-up", Checks.path(plan), "0 11");
        plan.breakdown(1, 6, 10);
        Checks.due("a breakdown that is a minute longer", Checks.path(plan), "11");
        plan.breakdown(1, 14, 15);
        Checks.due("a breakdown behind it", Checks.path(plan), "0 11");
        plan.breakdown(1, 13, 15);
        Checks.due("a breakdown of its last minute", Checks.path(plan), "11");
        Boreplan first = Shops.row(5, 5);
        Checks.due("the first one of a job has none ahead in it", Checks.path(first), "0 10");
    }

    /** Critical path: "otherwise the path begins with it." */
    private static void pathBeginsOtherwise() {
        Boreplan plan = meeting(3, 0);
        plan.breakdown(1, 3, 5);
        Checks.due("broken until its job is ready", Checks.path(plan), "10 11");
        plan.breakdown(1, 3, 6);
        Checks.due("broken a minute longer", Checks.path(plan), "11");
        Boreplan alone = Shops.row(5);
        Checks.due("at the minute 0", Checks.path(alone), "0");
        alone.setSetup(0, 0, 1);
        Checks.due("behind a set-up from the family 0", Checks.path(alone), "0");
        alone.breakdown(0, 0, 9);
        Checks.due("behind a breakdown", Checks.path(alone), "0");
        Boreplan setup = Shops.jobs(2, 1);
        setup.setSetup(0, 1, 6);
        setup.addOperation(0, 0, 5, 0, 0);
        setup.addOperation(0, 1, 5, 1, 0);
        setup.place(0);
        Checks.due("a set-up from the family 0 a minute behind the job", Checks.path(setup), "1");
        setup.setSetup(0, 1, 5);
        Checks.due("a set-up from the family 0 with the job", Checks.path(setup), "0 1");
    }

    /** Promise 20: "Returns how many operations the critical path has; 0 if none are placed." */
    private static void noCriticalsIfNoneArePlaced() {
        Checks.due("a new object", new Boreplan().criticals(), 0);
        Checks.due("jobs that wait", Shops.grid(4, 8).criticals(), 0);
        Boreplan plan = Shops.row(5);
        Checks.due("one", plan.criticals(), 1);
        plan.remove(0);
        Checks.due("one that is removed", plan.criticals(), 0);
        Checks.due("all of a chain", Shops.chain(8).criticals(), 32);
    }

    /** Promise 21: "- `place`: from 0, the first one first" */
    private static void criticalAtTheFirstOneFirst() {
        Boreplan plan = Shops.placed();
        int[] path = {0, 1, 10, 11};
        for (int place = 0; place < 4; place++) {
            Checks.due("criticalAt(" + place + ")", plan.criticalAt(place), path[place]);
        }
        for (int place : new int[] {-1, 4}) {
            Checks.due("the place " + place, Checks.thrownBy(() -> plan.criticalAt(place)),
                    "IndexOutOfBoundsException");
        }
    }

    /** Promise 21: "Returns 10 times the job and the number of the operation, together.", from 0 to 73. */
    private static void criticalAtTenTimesTheJob() {
        Boreplan plan = Shops.chain(8);
        for (int i = 0; i < 32; i++) {
            Checks.due("criticalAt(" + i + ")", plan.criticalAt(i), 10 * (i / 4) + i % 4);
        }
    }

    /** Promise 21: "Throws `IndexOutOfBoundsException` if there is no such place" */
    private static void criticalAtNoPlace() {
        for (int count = 0; count <= 8; count++) {
            int jobs = count;
            Edges.range("place of " + 4 * count, 0, 4 * count - 1, Edges.INDEX, () -> Shops.chain(jobs),
                    (p, i) -> p.criticalAt(i));
        }
        Edges.range("place of one of three that are placed", 0, 0, Edges.INDEX, EdgesOfSlackAndPathTest::broken,
                (p, i) -> p.criticalAt(i));
    }

    /** Two operations and, behind a breakdown, a third one, with which the path begins. */
    private static Boreplan broken() {
        Boreplan plan = Shops.row(5, 5, 5);
        plan.breakdown(0, 10, 11);
        return plan;
    }
}
