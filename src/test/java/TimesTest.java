/** Promises 15 to 18: startOf, startByRounds, lateness, span. */
public final class TimesTest {
    public static void main(String[] args) {
        starts();
        startsWaitForJobAndMachine();
        startsWithSetups();
        startsWithABreakdown();
        lateness();
        span();
        Checks.end();
    }

    private static void bothStarts(Boreplan plan, int job, int operation, int want) {
        String name = "(" + job + ", " + operation + ")";
        Checks.due("startOf" + name, plan.startOf(job, operation), want);
        Checks.due("startByRounds" + name, plan.startByRounds(job, operation), want);
    }

    private static void starts() {
        Boreplan plan = Shops.placed();
        bothStarts(plan, 0, 0, 3);
        bothStarts(plan, 0, 1, 8);
        bothStarts(plan, 1, 0, 14);
        bothStarts(plan, 1, 1, 18);
    }

    private static void startsWaitForJobAndMachine() {
        Boreplan plan = Shops.machines(2);
        plan.addJob(0);
        plan.addOperation(0, 0, 10, 0, 0);
        plan.addOperation(0, 1, 3, 0, 0);
        plan.addJob(0);
        plan.addOperation(1, 0, 2, 0, 0);
        plan.addOperation(1, 1, 20, 0, 0);
        plan.place(0);
        plan.place(1);
        bothStarts(plan, 0, 1, 10);
        bothStarts(plan, 1, 0, 10);
        bothStarts(plan, 1, 1, 13);
        plan.swap(0, 0);
        bothStarts(plan, 0, 0, 2);
        bothStarts(plan, 1, 0, 0);
        bothStarts(plan, 0, 1, 12);
        bothStarts(plan, 1, 1, 15);
        plan.swap(1, 0);
        bothStarts(plan, 1, 1, 2);
        bothStarts(plan, 0, 1, 22);
    }

    private static void startsWithSetups() {
        Boreplan plan = Shops.machines(2);
        plan.setSetup(0, 0, 6);
        plan.setSetup(0, 3, 9);
        plan.setSetup(3, 0, 1);
        plan.addJob(0);
        plan.addOperation(0, 0, 4, 3, 0);
        plan.addOperation(0, 1, 4, 0, 0);
        plan.addOperation(0, 0, 4, 0, 0);
        plan.place(0);
        bothStarts(plan, 0, 0, 9);
        bothStarts(plan, 0, 1, 13);
        bothStarts(plan, 0, 2, 17);
        plan.setSetup(3, 0, 60);
        bothStarts(plan, 0, 2, 73);
    }

    private static void startsWithABreakdown() {
        Boreplan plan = Shops.row(4, 6);
        plan.breakdown(0, 4, 9);
        bothStarts(plan, 0, 0, 0);
        bothStarts(plan, 1, 0, 9);
        plan.breakdown(0, 3, 9);
        bothStarts(plan, 0, 0, 9);
        bothStarts(plan, 1, 0, 13);
        plan.breakdown(0, 10, 11);
        bothStarts(plan, 1, 0, 4);
        plan.breakdown(0, 6, 7);
        bothStarts(plan, 1, 0, 7);
        plan.repair(0);
        bothStarts(plan, 1, 0, 4);
    }

    private static void lateness() {
        Boreplan plan = Shops.placed();
        Checks.due("ahead of the due minute", plan.lateness(0), 0);
        Checks.due("behind it", plan.lateness(1), 10);
        Boreplan exact = Shops.machines(1);
        exact.addJob(5);
        exact.addJob(9);
        for (int job = 0; job < 2; job++) {
            exact.addOperation(job, 0, 5, 0, 0);
            exact.place(job);
        }
        Checks.due("at the due minute", exact.lateness(0), 0);
        Checks.due("a minute late", exact.lateness(1), 1);
    }

    private static void span() {
        Checks.due("span() of nothing placed", Shops.waiting().span(), 0);
        Checks.due("span()", Shops.placed().span(), 25);
        Boreplan plan = Shops.placed();
        plan.remove(1);
        Checks.due("span() behind remove", plan.span(), 14);
        plan.remove(0);
        Checks.due("span() behind all removes", plan.span(), 0);
        plan.breakdown(0, 0, 50);
        Checks.due("a breakdown alone", plan.span(), 0);
    }
}
