/** Promises 6 to 8: addJob, addOperation, setSetup. */
public final class JobsTest {
    private static final Class<?> INDEX = IndexOutOfBoundsException.class;
    private static final Class<?> ARGUMENT = IllegalArgumentException.class;
    private static final Class<?> STATE = IllegalStateException.class;

    public static void main(String[] args) {
        addJob();
        addOperation();
        addOperationLooksAtRanges();
        addOperationLooksAtTheJob();
        setSetup();
        setSetupRefuses();
        Checks.end();
    }

    private static Boreplan jobs(int count) {
        Boreplan plan = Shops.machines(1);
        for (int i = 0; i < count; i++) {
            plan.addJob(i);
        }
        return plan;
    }

    private static void addJob() {
        Boreplan plan = new Boreplan();
        for (int i = 0; i < 8; i++) {
            Checks.due("addJob", plan.addJob(i % 2 == 0 ? 0 : 10000), i);
        }
        Checks.refused("due -1", ARGUMENT, () -> jobs(1), p -> p.addJob(-1));
        Checks.refused("due 10001", ARGUMENT, () -> jobs(1), p -> p.addJob(10001));
        Checks.refused("a ninth job", STATE, () -> jobs(8), p -> p.addJob(5));
        Checks.refused("due ahead of a ninth job", ARGUMENT, () -> jobs(8), p -> p.addJob(-1));
        Boreplan empty = jobs(1);
        Checks.due("without operations", Checks.thrownBy(() -> empty.place(0)), "IllegalStateException");
    }

    private static void addOperation() {
        Boreplan plan = Shops.machines(2);
        plan.addJob(0);
        plan.addJob(0);
        plan.setMagazine(0, 8);
        plan.setSetup(0, 3, 7);
        Checks.due("the least of all", plan.addOperation(0, 1, 1, 0, 0), 0);
        Checks.due("the greatest of all", plan.addOperation(0, 0, 200, 3, 255), 1);
        Checks.due("another job", plan.addOperation(1, 0, 10, 0, 16), 0);
        Checks.due("the third", plan.addOperation(0, 0, 2, 3, 1), 2);
        Checks.due("the fourth", plan.addOperation(0, 1, 3, 0, 15), 3);
        Checks.due("place(0)", plan.place(0), 212);
        Checks.due("startOf(0, 0)", plan.startOf(0, 0), 0);
        Checks.due("startOf(0, 1)", plan.startOf(0, 1), 7);
        Checks.due("startOf(0, 2)", plan.startOf(0, 2), 207);
        Checks.due("startOf(0, 3)", plan.startOf(0, 3), 209);
        Checks.due("placedAt(0, 1)", plan.placedAt(0, 1), 2);
        Checks.due("placedAt(1, 1)", plan.placedAt(1, 1), 3);
        Checks.due("loads(0)", plan.loads(0), 8);
    }

    private static void addOperationLooksAtRanges() {
        Checks.refused("job -1", INDEX, Shops::waiting, p -> p.addOperation(-1, 0, 1, 0, 0));
        Checks.refused("job 3 of 3", INDEX, Shops::waiting, p -> p.addOperation(3, 0, 1, 0, 0));
        Checks.refused("machine -1", INDEX, Shops::waiting, p -> p.addOperation(2, -1, 1, 0, 0));
        Checks.refused("machine 2 of 2", INDEX, Shops::waiting, p -> p.addOperation(2, 2, 1, 0, 0));
        Checks.refused("machine ahead of length", INDEX, Shops::waiting, p -> p.addOperation(2, 2, 0, 0, 0));
        Checks.refused("length 0", ARGUMENT, Shops::waiting, p -> p.addOperation(2, 0, 0, 0, 0));
        Checks.refused("length 201", ARGUMENT, Shops::waiting, p -> p.addOperation(2, 0, 201, 0, 0));
        Checks.refused("family -1", ARGUMENT, Shops::waiting, p -> p.addOperation(2, 0, 1, -1, 0));
        Checks.refused("family 4", ARGUMENT, Shops::waiting, p -> p.addOperation(2, 0, 1, 4, 0));
        Checks.refused("tools -1", ARGUMENT, Shops::waiting, p -> p.addOperation(2, 0, 1, 0, -1));
        Checks.refused("tools 256", ARGUMENT, Shops::waiting, p -> p.addOperation(2, 0, 1, 0, 256));
        Checks.refused("length ahead of being placed", ARGUMENT, Shops::placed, p -> p.addOperation(0, 0, 0, 0, 0));
    }

    private static void addOperationLooksAtTheJob() {
        Checks.refused("a placed job", STATE, Shops::placed, p -> p.addOperation(0, 0, 1, 0, 0));
        Checks.refused("five tools", STATE, Shops::waiting, p -> p.addOperation(2, 0, 1, 0, 31));
        Checks.refused("a fifth operation", STATE, JobsTest::fourOperations, p -> p.addOperation(0, 0, 1, 0, 0));
        Boreplan plan = Shops.placed();
        plan.remove(0);
        Checks.due("behind remove", plan.addOperation(0, 0, 1, 0, 15), 2);
        plan.setMagazine(1, 5);
        Checks.due("behind setMagazine", plan.addOperation(0, 1, 1, 0, 31), 3);
    }

    private static Boreplan fourOperations() {
        Boreplan plan = jobs(1);
        for (int i = 0; i < 4; i++) {
            plan.addOperation(0, 0, 1, 0, 0);
        }
        return plan;
    }

    private static void setSetup() {
        Boreplan plan = Shops.placed();
        Checks.due("setSetup(0, 1, 60)", plan.setSetup(0, 1, 60), 3);
        Checks.due("setSetup(0, 1, 0)", plan.setSetup(0, 1, 0), 60);
        Checks.due("the span follows", plan.span(), 22);
        Checks.due("the other way", plan.setSetup(1, 0, 2), 2);
        Checks.due("setSetup(0, 0, 5)", plan.setSetup(0, 0, 5), 0);
        Checks.due("to itself: first and second on machine 1", plan.startOf(1, 0), 16);
        Checks.due("setSetup(3, 3, 1)", plan.setSetup(3, 3, 1), 0);
        Checks.due("setSetup(3, 3, 2)", plan.setSetup(3, 3, 2), 1);
    }

    private static void setSetupRefuses() {
        Checks.refused("family -1", INDEX, Shops::placed, p -> p.setSetup(-1, 0, 1));
        Checks.refused("family 4", INDEX, Shops::placed, p -> p.setSetup(4, 0, 1));
        Checks.refused("other -1", INDEX, Shops::placed, p -> p.setSetup(0, -1, 1));
        Checks.refused("other 4", INDEX, Shops::placed, p -> p.setSetup(0, 4, 1));
        Checks.refused("other ahead of minutes", INDEX, Shops::placed, p -> p.setSetup(0, 4, 61));
        Checks.refused("minutes -1", ARGUMENT, Shops::placed, p -> p.setSetup(0, 1, -1));
        Checks.refused("minutes 61", ARGUMENT, Shops::placed, p -> p.setSetup(0, 1, 61));
    }
}
