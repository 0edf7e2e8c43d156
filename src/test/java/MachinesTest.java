/** Promises 2 to 5: addMachine, setMagazine, breakdown, repair. */
public final class MachinesTest {
    private static final Class<?> INDEX = IndexOutOfBoundsException.class;
    private static final Class<?> ARGUMENT = IllegalArgumentException.class;
    private static final Class<?> STATE = IllegalStateException.class;

    public static void main(String[] args) {
        addMachine();
        setMagazine();
        setMagazineRefuses();
        breakdown();
        breakdownRefuses();
        repair();
        Checks.end();
    }

    private static void addMachine() {
        Boreplan plan = new Boreplan();
        for (int i = 0; i < 4; i++) {
            Checks.due("addMachine()", plan.addMachine(), i);
            Checks.due("placed(" + i + ")", plan.placed(i), 0);
            Checks.due("loads(" + i + ")", plan.loads(i), 0);
            Checks.due("setups(" + i + ")", plan.setups(i), 0);
        }
        Checks.refused("a fifth machine", STATE, () -> Shops.machines(4), p -> p.addMachine());
    }

    private static void setMagazine() {
        Boreplan plan = Shops.machines(2);
        Checks.due("setMagazine(0, 1)", plan.setMagazine(0, 1), 4);
        Checks.due("setMagazine(0, 8)", plan.setMagazine(0, 8), 1);
        Checks.due("setMagazine(0, 8)", plan.setMagazine(0, 8), 8);
        Checks.due("setMagazine(1, 3)", plan.setMagazine(1, 3), 4);
        plan.addJob(0);
        plan.addOperation(0, 0, 1, 0, 255);
        Checks.due("another machine", plan.setMagazine(1, 1), 3);
        plan.addOperation(0, 1, 1, 0, 128);
        Checks.due("as many as are needed", plan.setMagazine(1, 1), 1);
    }

    private static void setMagazineRefuses() {
        Checks.refused("machine -1", INDEX, Shops::placed, p -> p.setMagazine(-1, 4));
        Checks.refused("machine 2 of 2", INDEX, Shops::placed, p -> p.setMagazine(2, 4));
        Checks.refused("machine ahead of capacity", INDEX, Shops::placed, p -> p.setMagazine(2, 0));
        Checks.refused("capacity 0, ahead of the tools", ARGUMENT, Shops::placed, p -> p.setMagazine(0, 0));
        Checks.refused("capacity 9", ARGUMENT, Shops::placed, p -> p.setMagazine(0, 9));
        Checks.refused("too few for a placed operation", STATE, Shops::placed, p -> p.setMagazine(0, 1));
        Checks.refused("too few for a waiting operation", STATE, Shops::waiting, p -> p.setMagazine(1, 1));
        Boreplan removed = Shops.placed();
        removed.remove(0);
        removed.remove(1);
        Checks.due("too few for a removed one", Checks.thrownBy(() -> removed.setMagazine(0, 1)),
                "IllegalStateException");
        Checks.due("just enough", removed.setMagazine(0, 2), 4);
    }

    private static void breakdown() {
        Boreplan plan = Shops.row(5, 5);
        Checks.due("from the finish on", plan.breakdown(0, 10, 20), 10);
        Checks.due("the last minute", plan.breakdown(0, 9, 20), 25);
        Checks.due("startOf(1, 0)", plan.startOf(1, 0), 20);
        Checks.due("between the two", plan.breakdown(0, 5, 6), 11);
        Checks.due("in place of the one before", plan.breakdown(0, 0, 1), 11);
        Checks.due("startOf(0, 0)", plan.startOf(0, 0), 1);
        Checks.due("the whole range", plan.breakdown(0, 0, 10000), 10010);
        Checks.due("its last minute", plan.breakdown(0, 9999, 10000), 10);
        setupsGoOnInABreakdown();
    }

    private static void setupsGoOnInABreakdown() {
        Boreplan plan = Shops.row(5, 5);
        plan.setSetup(0, 0, 4);
        Checks.due("a set-up, an operation", plan.span(), 18);
        Checks.due("a breakdown in the second set-up", plan.breakdown(0, 10, 12), 18);
        Checks.due("one that ends with the second set-up", plan.breakdown(0, 9, 13), 18);
        Checks.due("one that ends behind it", plan.breakdown(0, 9, 14), 19);
        Checks.due("on no machine but its own", onAnotherMachine(), 10);
    }

    private static int onAnotherMachine() {
        Boreplan plan = Shops.row(5, 5);
        plan.addMachine();
        return plan.breakdown(1, 0, 100);
    }

    private static void breakdownRefuses() {
        Checks.refused("machine -1", INDEX, Shops::placed, p -> p.breakdown(-1, 0, 1));
        Checks.refused("machine 2, ahead of from", INDEX, Shops::placed, p -> p.breakdown(2, -1, 1));
        Checks.refused("from -1", ARGUMENT, Shops::placed, p -> p.breakdown(0, -1, 1));
        Checks.refused("from 10000", ARGUMENT, Shops::placed, p -> p.breakdown(0, 10000, 10001));
        Checks.refused("to as from", ARGUMENT, Shops::placed, p -> p.breakdown(0, 5, 5));
        Checks.refused("to ahead of from", ARGUMENT, Shops::placed, p -> p.breakdown(0, 5, 4));
        Checks.refused("to 10001", ARGUMENT, Shops::placed, p -> p.breakdown(0, 5, 10001));
        Checks.refused("the greatest from", ARGUMENT, Shops::placed,
                p -> p.breakdown(0, Integer.MAX_VALUE, Integer.MIN_VALUE));
        Boreplan kept = Shops.row(5);
        kept.breakdown(0, 0, 7);
        Checks.thrownBy(() -> kept.breakdown(0, 3, 3));
        Checks.due("the one before stays", kept.startOf(0, 0), 7);
    }

    private static void repair() {
        Boreplan plan = Shops.row(5, 5);
        Checks.due("repair without one", plan.repair(0), false);
        plan.breakdown(0, 0, 100);
        Checks.due("span() with one", plan.span(), 110);
        Checks.due("repair of one", plan.repair(0), true);
        Checks.due("span() behind it", plan.span(), 10);
        Checks.due("repair again", plan.repair(0), false);
        Checks.refused("machine 2", INDEX, Shops::placed, p -> p.repair(2));
        Checks.refused("machine -1", INDEX, Shops::placed, p -> p.repair(-1));
    }
}
