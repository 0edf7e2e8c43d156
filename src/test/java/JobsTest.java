/** Promises 6 to 8: addJob, addOperation, setSetup. */
public final class JobsTest {
    public static void main(String[] args) {
        addJob();
        addOperation();
        addOperationLooksAtTheJob();
        setSetup();
        Checks.end();
    }

    private static void addJob() {
        Boreplan plan = new Boreplan();
        for (int i = 0; i < 8; i++) {
            Checks.due("addJob", plan.addJob(i % 2 == 0 ? 0 : 10000), i);
        }
        Boreplan empty = Shops.jobs(1, 1);
        Checks.due("without operations", Checks.thrownBy(() -> empty.place(0)), "IllegalStateException");
    }

    private static void addOperation() {
        Boreplan plan = Shops.machines(2);
        plan.addJob(0);
        plan.addJob(0);
        plan.setMagazine(0, 8);
        plan.setSetup(0, 3, 7);
        Checks.due("the least of all", plan.addOperation(0, 1, 1, 0, 0), 0);
        Checks.due("the greatest of all", plan.addOperation(0, 0, 200, 3, 255), 1);
        Checks.due("another job", plan.addOperation(1, 0, 10, 0, 16), 0);
        Checks.due("the third", plan.addOperation(0, 0, 2, 3, 1), 2);
        Checks.due("the fourth", plan.addOperation(0, 1, 3, 0, 15), 3);
        Checks.due("place(0)", plan.place(0), 212);
        Checks.due("startOf(0, 0)", plan.startOf(0, 0), 0);
        Checks.due("startOf(0, 1)", plan.startOf(0, 1), 7);
        Checks.due("startOf(0, 2)", plan.startOf(0, 2), 207);
        Checks.due("startOf(0, 3)", plan.startOf(0, 3), 209);
        Checks.due("placedAt(0, 1)", plan.placedAt(0, 1), 2);
        Checks.due("placedAt(1, 1)", plan.placedAt(1, 1), 3);
        Checks.due("loads(0)", plan.loads(0), 8);
    }

    private static void addOperationLooksAtTheJob() {
        Boreplan plan = Shops.placed();
        plan.remove(0);
        Checks.due("behind remove", plan.addOperation(0, 0, 1, 0, 15), 2);
        plan.setMagazine(1, 5);
        Checks.due("behind setMagazine", plan.addOperation(0, 1, 1, 0, 31), 3);
    }

    private static void setSetup() {
        Boreplan plan = Shops.placed();
        Checks.due("setSetup(0, 1, 60)", plan.setSetup(0, 1, 60), 3);
        Checks.due("setSetup(0, 1, 0)", plan.setSetup(0, 1, 0), 60);
        Checks.due("the span follows", plan.span(), 22);
        Checks.due("the other way", plan.setSetup(1, 0, 2), 2);
        Checks.due("setSetup(0, 0, 5)", plan.setSetup(0, 0, 5), 0);
        Checks.due("to itself: first and second on machine 1", plan.startOf(1, 0), 16);
        Checks.due("setSetup(3, 3, 1)", plan.setSetup(3, 3, 1), 0);
        Checks.due("setSetup(3, 3, 2)", plan.setSetup(3, 3, 2), 1);
    }
}
