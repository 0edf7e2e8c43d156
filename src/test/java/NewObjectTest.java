/** Promise 1: a new object; and the constant. */
public final class NewObjectTest {
    public static void main(String[] args) {
        Checks.due("NONE", Boreplan.NONE, -1);
        Boreplan plan = new Boreplan();
        Checks.due("span()", plan.span(), 0);
        Checks.due("criticals()", plan.criticals(), 0);
        for (int i = 0; i < 16; i++) {
            Checks.due("setSetup", plan.setSetup(i / 4, i % 4, 0), 0);
        }
        knowsNothing();
        Boreplan other = new Boreplan();
        other.addMachine();
        other.addJob(1);
        other.setSetup(0, 0, 9);
        Checks.due("the first machine of another object", plan.addMachine(), 0);
        Checks.due("the first job of another object", plan.addJob(0), 0);
        Checks.due("the set-up of another object", plan.setSetup(0, 0, 0), 0);
        Checks.end();
    }

    private static void knowsNothing() {
        String want = "IndexOutOfBoundsException";
        Boreplan plan = new Boreplan();
        Checks.due("setMagazine", Checks.thrownBy(() -> plan.setMagazine(0, 4)), want);
        Checks.due("breakdown", Checks.thrownBy(() -> plan.breakdown(0, 0, 1)), want);
        Checks.due("repair", Checks.thrownBy(() -> plan.repair(0)), want);
        Checks.due("addOperation", Checks.thrownBy(() -> plan.addOperation(0, 0, 1, 0, 0)), want);
        Checks.due("place", Checks.thrownBy(() -> plan.place(0)), want);
        Checks.due("rush", Checks.thrownBy(() -> plan.rush(0)), want);
        Checks.due("remove", Checks.thrownBy(() -> plan.remove(0)), want);
        Checks.due("swap", Checks.thrownBy(() -> plan.swap(0, 0)), want);
        Checks.due("placed", Checks.thrownBy(() -> plan.placed(0)), want);
        Checks.due("placedAt", Checks.thrownBy(() -> plan.placedAt(0, 0)), want);
        Checks.due("startOf", Checks.thrownBy(() -> plan.startOf(0, 0)), want);
        Checks.due("startByRounds", Checks.thrownBy(() -> plan.startByRounds(0, 0)), want);
        Checks.due("lateness", Checks.thrownBy(() -> plan.lateness(0)), want);
        Checks.due("slack", Checks.thrownBy(() -> plan.slack(0, 0)), want);
        Checks.due("criticalAt", Checks.thrownBy(() -> plan.criticalAt(0)), want);
        Checks.due("setups", Checks.thrownBy(() -> plan.setups(0)), want);
        Checks.due("loads", Checks.thrownBy(() -> plan.loads(0)), want);
    }
}
