/** Promises 2 to 5: addMachine, setMagazine, breakdown, repair. */
public final class MachinesTest {
    public static void main(String[] args) {
        addMachine();
        setMagazine();
        breakdown();
        repair();
        Checks.end();
    }

    private static void addMachine() {
        Boreplan plan = new Boreplan();
        for (int i = 0; i < 4; i++) {
            Checks.due("addMachine()", plan.addMachine(), i);
            Checks.due("placed(" + i + ")", plan.placed(i), 0);
            Checks.due("loads(" + i + ")", plan.loads(i), 0);
            Checks.due("setups(" + i + ")", plan.setups(i), 0);
        }
    }

    private static void setMagazine() {
        Boreplan plan = Shops.machines(2);
        Checks.due("setMagazine(0, 1)", plan.setMagazine(0, 1), 4);
        Checks.due("setMagazine(0, 8)", plan.setMagazine(0, 8), 1);
        Checks.due("setMagazine(0, 8)", plan.setMagazine(0, 8), 8);
        Checks.due("setMagazine(1, 3)", plan.setMagazine(1, 3), 4);
        plan.addJob(0);
        plan.addOperation(0, 0, 1, 0, 255);
        Checks.due("another machine", plan.setMagazine(1, 1), 3);
        plan.addOperation(0, 1, 1, 0, 128);
        Checks.due("as many as are needed", plan.setMagazine(1, 1), 1);
    }

    private static void breakdown() {
        Boreplan plan = Shops.row(5, 5);
        Checks.due("from the finish on", plan.breakdown(0, 10, 20), 10);
        Checks.due("the last minute", plan.breakdown(0, 9, 20), 25);
        Checks.due("startOf(1, 0)", plan.startOf(1, 0), 20);
        Checks.due("between the two", plan.breakdown(0, 5, 6), 11);
        Checks.due("in place of the one before", plan.breakdown(0, 0, 1), 11);
        Checks.due("startOf(0, 0)", plan.startOf(0, 0), 1);
        Checks.due("the whole range", plan.breakdown(0, 0, 10000), 10010);
        Checks.due("its last minute", plan.breakdown(0, 9999, 10000), 10);
        setupsGoOnInABreakdown();
    }

    private static void setupsGoOnInABreakdown() {
        Boreplan plan = Shops.row(5, 5);
        plan.setSetup(0, 0, 4);
        Checks.due("a set-up, an operation", plan.span(), 18);
        Checks.due("a breakdown in the second set-up", plan.breakdown(0, 10, 12), 18);
        Checks.due("one that ends with the second set-up", plan.breakdown(0, 9, 13), 18);
        Checks.due("one that ends behind it", plan.breakdown(0, 9, 14), 19);
        Checks.due("on no machine but its own", onAnotherMachine(), 10);
    }

    private static int onAnotherMachine() {
        Boreplan plan = Shops.row(5, 5);
        plan.addMachine();
        return plan.breakdown(1, 0, 100);
    }

    private static void repair() {
        Boreplan plan = Shops.row(5, 5);
        Checks.due("repair without one", plan.repair(0), false);
        plan.breakdown(0, 0, 100);
        Checks.due("span() with one", plan.span(), 110);
        Checks.due("repair of one", plan.repair(0), true);
        Checks.due("span() behind it", plan.span(), 10);
        Checks.due("repair again", plan.repair(0), false);
    }
}
