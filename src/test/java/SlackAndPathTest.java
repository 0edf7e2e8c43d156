/** Promises 19 to 21: slack, criticals, criticalAt. */
public final class SlackAndPathTest {
    public static void main(String[] args) {
        slackOfJobsAndMachines();
        slackWithSetups();
        slackWithABreakdown();
        pathOfPlaced();
        pathEndsWithTheLowestJob();
        pathGoesByTheJobFirst();
        pathBegins();
        Checks.end();
    }

    private static void slackOfJobsAndMachines() {
        Boreplan plan = Shops.machines(2);
        plan.addJob(0);
        plan.addOperation(0, 0, 5, 0, 0);
        plan.addOperation(0, 1, 6, 0, 0);
        plan.place(0);
        Shops.single(plan, 0, 3, 0);
        Shops.single(plan, 1, 10, 0);
        Checks.due("span()", plan.span(), 21);
        Checks.due("slack(0, 0)", plan.slack(0, 0), 0);
        Checks.due("slack(0, 1)", plan.slack(0, 1), 0);
        Checks.due("slack(1, 0)", plan.slack(1, 0), 13);
        Checks.due("slack(2, 0)", plan.slack(2, 0), 0);
        plan.swap(1, 0);
        Checks.due("span()", plan.span(), 16);
        Checks.due("slack(0, 0) bound by its job", plan.slack(0, 0), 5);
        Checks.due("slack(1, 0) bound by the span", plan.slack(1, 0), 8);
        Shops.single(plan, 0, 8, 0);
        Checks.due("slack(1, 0) bound by its machine", plan.slack(1, 0), 0);
        Checks.due("slack(0, 0) bound by its machine", plan.slack(0, 0), 0);
    }

    private static void slackWithSetups() {
        Boreplan plan = Shops.machines(2);
        plan.setSetup(0, 1, 4);
        plan.setSetup(1, 0, 7);
        Shops.single(plan, 0, 5, 0);
        Shops.single(plan, 0, 5, 1);
        Shops.single(plan, 1, 20, 0);
        Checks.due("startOf(1, 0)", plan.startOf(1, 0), 9);
        Checks.due("slack(1, 0)", plan.slack(1, 0), 6);
        Checks.due("slack(0, 0)", plan.slack(0, 0), 6);
        plan.setSetup(0, 1, 10);
        Checks.due("slack(0, 0) then", plan.slack(0, 0), 0);
    }

    private static void slackWithABreakdown() {
        Boreplan plan = Shops.machines(2);
        Shops.single(plan, 0, 5, 0);
        Shops.single(plan, 1, 20, 0);
        Checks.due("slack(0, 0)", plan.slack(0, 0), 15);
        plan.breakdown(0, 17, 18);
        Checks.due("it must be over at 17", plan.slack(0, 0), 12);
        plan.breakdown(0, 20, 30);
        Checks.due("one behind all", plan.slack(0, 0), 15);
        plan.breakdown(0, 19, 30);
        Checks.due("one that begins a minute ahead", plan.slack(0, 0), 14);
        plan.breakdown(0, 6, 15);
        Checks.due("one that it may come behind", plan.slack(0, 0), 15);
        plan.breakdown(0, 6, 16);
        Checks.due("one that ends too late for that", plan.slack(0, 0), 1);
        plan.breakdown(0, 2, 16);
        Checks.due("behind it the span is its own", plan.slack(0, 0), 0);
    }

    private static void pathOfPlaced() {
        Boreplan plan = Shops.placed();
        Checks.due("criticals()", plan.criticals(), 4);
        Checks.due("the path", Checks.path(plan), "0 1 10 11");
        Checks.due("nothing placed", Shops.waiting().criticals(), 0);
    }

    private static void pathEndsWithTheLowestJob() {
        Boreplan plan = Shops.machines(3);
        plan.addJob(0);
        plan.addJob(0);
        plan.addJob(0);
        plan.addOperation(0, 0, 4, 0, 0);
        plan.addOperation(1, 1, 9, 0, 0);
        plan.addOperation(2, 2, 9, 0, 0);
        plan.place(2);
        plan.place(1);
        plan.place(0);
        Checks.due("the path", Checks.path(plan), "10");
        plan.remove(1);
        Checks.due("a removed job has none", Checks.path(plan), "20");
    }

    /** Both the one ahead in the job and the one ahead on the machine finish at the start. */
    private static void pathGoesByTheJobFirst() {
        Boreplan plan = Shops.machines(2);
        Shops.single(plan, 1, 5, 0);
        plan.addJob(0);
        plan.addOperation(1, 0, 5, 0, 0);
        plan.addOperation(1, 1, 5, 0, 0);
        plan.place(1);
        Checks.due("by the job", Checks.path(plan), "10 11");
        plan.setSetup(0, 0, 1);
        Checks.due("by the machine, with a set-up", Checks.path(plan), "0 11");
        plan.setSetup(0, 0, 0);
        plan.breakdown(0, 100, 101);
        Checks.due("by the job again", Checks.path(plan), "10 11");
    }

    private static void pathBegins() {
        Boreplan plan = Shops.row(5, 5, 5);
        Checks.due("all on a machine", Checks.path(plan), "0 10 20");
        plan.breakdown(0, 5, 7);
        Checks.due("behind a breakdown", Checks.path(plan), "10 20");
        plan.breakdown(0, 4, 5);
        Checks.due("behind a breakdown at once", Checks.path(plan), "0 10 20");
        plan.breakdown(0, 12, 20);
        Checks.due("behind a late breakdown", Checks.path(plan), "20");
        plan.repair(0);
        plan.setSetup(0, 0, 2);
        Checks.due("with set-ups", Checks.path(plan), "0 10 20");
    }
}
