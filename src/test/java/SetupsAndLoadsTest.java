/** Promises 22 and 23: setups, loads. */
public final class SetupsAndLoadsTest {
    public static void main(String[] args) {
        setups();
        loads();
        loadsKeepWhatIsNeededSoonest();
        loadsFollowTheMagazine();
        loadsFollowTheRow();
        Checks.end();
    }

    private static void setups() {
        Checks.due("nothing placed", Shops.waiting().setups(0), 0);
        Boreplan plan = Shops.placed();
        Checks.due("setups(0)", plan.setups(0), 7);
        Checks.due("setups(1)", plan.setups(1), 0);
        plan.setSetup(0, 0, 5);
        Checks.due("the first one counts", plan.setups(1), 10);
        plan.remove(0);
        Checks.due("from the family 0 at first", plan.setups(0), 0);
        plan.setSetup(0, 2, 9);
        Checks.due("from the family 0 with a set-up", plan.setups(0), 9);
        Checks.due("only one left", plan.setups(1), 5);
    }

    /** A machine with a magazine and, for each set of tools, a placed job of one operation. */
    private static Boreplan tools(int capacity, int... sets) {
        Boreplan plan = Shops.machines(1);
        plan.setMagazine(0, capacity);
        for (int set : sets) {
            int job = plan.addJob(0);
            plan.addOperation(job, 0, 1, 0, set);
            plan.place(job);
        }
        return plan;
    }

    private static void loads() {
        Checks.due("no operations", tools(4).loads(0), 0);
        Checks.due("no tools", tools(1, 0, 0).loads(0), 0);
        Checks.due("each once", tools(4, 3, 12, 3, 12).loads(0), 4);
        Checks.due("one place, two tools", tools(1, 1, 2, 1, 2).loads(0), 4);
        Checks.due("one place, the same tool", tools(1, 1, 1, 0, 1).loads(0), 1);
        Checks.due("all eight", tools(8, 255, 1, 255).loads(0), 8);
    }

    private static void loadsKeepWhatIsNeededSoonest() {
        Checks.due("the first one is needed sooner", tools(2, 1, 2, 4, 1, 2).loads(0), 4);
        Checks.due("the second one is needed sooner", tools(2, 1, 2, 4, 2, 1).loads(0), 4);
        Checks.due("one is needed never again", tools(2, 1, 2, 4, 2, 4, 2).loads(0), 3);
        Checks.due("the other one never again", tools(2, 2, 1, 4, 2, 4, 2).loads(0), 3);
        Checks.due("needed sooner, but not at once", tools(2, 1, 2, 4, 0, 1).loads(0), 3);
        Checks.due("with sets", tools(3, 3, 5, 24, 192, 7).loads(0), 9);
    }

    private static void loadsFollowTheMagazine() {
        Boreplan plan = tools(2, 1, 2, 4, 1, 2, 4);
        Checks.due("two places", plan.loads(0), 4);
        plan.setMagazine(0, 1);
        Checks.due("one place", plan.loads(0), 6);
        plan.setMagazine(0, 3);
        Checks.due("three places", plan.loads(0), 3);
    }

    private static void loadsFollowTheRow() {
        Boreplan plan = tools(1, 1, 2, 1);
        Checks.due("ahead of swap", plan.loads(0), 3);
        plan.swap(0, 1);
        Checks.due("behind swap", plan.loads(0), 2);
        plan.remove(1);
        Checks.due("behind remove", plan.loads(0), 1);
        plan.addJob(0);
        plan.addOperation(3, 0, 1, 0, 128);
        Checks.due("waiting operations need none", plan.loads(0), 1);
    }
}
