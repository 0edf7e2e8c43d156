/**
 * Terms: "If several exceptions apply to a call, the one that its throws clause names first is thrown; a call that
 * throws changes nothing." Each test takes the calls to which the same two or three exceptions apply.
 */
public final class EdgesOfExceptionsTest {
    public static void main(String[] args) {
        setMagazine();
        breakdown();
        addJob();
        addOperationIndexFirst();
        addOperationArgumentThen();
        setSetup();
        noOperationOfAWaitingJob();
        refusedCallsOnAFullObject();
        Checks.end();
    }

    /** "throws IndexOutOfBoundsException, IllegalArgumentException, IllegalStateException" of setMagazine */
    private static void setMagazine() {
        for (int capacity : new int[] {0, 9, Integer.MIN_VALUE, Integer.MAX_VALUE}) {
            Checks.refused("no machine, capacity " + capacity, Edges.INDEX, Shops::placed,
                    p -> p.setMagazine(2, capacity));
        }
        Checks.refused("capacity 0, two tools", Edges.ARGUMENT, Shops::placed, p -> p.setMagazine(0, 0));
        Checks.refused("capacity 1, two tools", Edges.STATE, Shops::placed, p -> p.setMagazine(0, 1));
    }

    /** "throws IndexOutOfBoundsException, IllegalArgumentException" of breakdown */
    private static void breakdown() {
        Checks.refused("no machine, from -1", Edges.INDEX, Shops::placed, p -> p.breakdown(2, -1, 5));
        Checks.refused("no machine, from 10000", Edges.INDEX, Shops::placed, p -> p.breakdown(-1, 10000, 10001));
        Checks.refused("no machine, to as from", Edges.INDEX, Shops::placed, p -> p.breakdown(2, 5, 5));
        Checks.refused("no machine, to 10001", Edges.INDEX, Shops::placed, p -> p.breakdown(-1, 5, 10001));
    }

    /** "throws IllegalArgumentException, IllegalStateException" of addJob */
    private static void addJob() {
        Checks.refused("due -1, 8 jobs", Edges.ARGUMENT, () -> Shops.jobs(1, 8), p -> p.addJob(-1));
        Checks.refused("due 10001, 8 jobs", Edges.ARGUMENT, () -> Shops.jobs(1, 8), p -> p.addJob(10001));
        Checks.refused("due 10000, 8 jobs", Edges.STATE, () -> Shops.jobs(1, 8), p -> p.addJob(10000));
    }

    /** "throws IndexOutOfBoundsException, IllegalArgumentException, IllegalStateException" of addOperation: first */
    private static void addOperationIndexFirst() {
        int[][] outside = {{0, 0, 0}, {201, 0, 0}, {1, -1, 0}, {1, 4, 0}, {1, 0, -1}, {1, 0, 256}, {1, 0, 255}};
        for (int[] a : outside) {
            Checks.refused("no job and wrong", Edges.INDEX, Shops::placed, p -> p.addOperation(3, 0, a[0], a[1], a[2]));
            Checks.refused("no machine and wrong", Edges.INDEX, Shops::placed,
                    p -> p.addOperation(2, 2, a[0], a[1], a[2]));
            Checks.refused("no machine, a placed job and wrong", Edges.INDEX, Shops::placed,
                    p -> p.addOperation(0, 2, a[0], a[1], a[2]));
            Checks.refused("no machine, a job with 4 operations and wrong", Edges.INDEX, () -> Shops.grid(4, 1),
                    p -> p.addOperation(0, 4, a[0], a[1], a[2]));
        }
        Checks.refused("no machine, a placed job", Edges.INDEX, Shops::placed, p -> p.addOperation(0, 2, 1, 0, 0));
        Checks.refused("no machine, 4 operations", Edges.INDEX, () -> Shops.grid(4, 1),
                p -> p.addOperation(0, -1, 1, 0, 0));
        Checks.refused("no job, no machine", Edges.INDEX, Shops::placed, p -> p.addOperation(-1, -1, 1, 0, 0));
    }

    /** "throws IndexOutOfBoundsException, IllegalArgumentException, IllegalStateException" of addOperation: second */
    private static void addOperationArgumentThen() {
        int[][] outside = {{0, 0, 0}, {201, 0, 0}, {1, -1, 0}, {1, 4, 0}, {1, 0, -1}, {1, 0, 256}, {1, 0, 511},
            {0, 0, 255}, {1, 4, 255}};
        for (int[] a : outside) {
            Checks.refused("a placed job and wrong", Edges.ARGUMENT, Shops::placed,
                    p -> p.addOperation(0, 0, a[0], a[1], a[2]));
            Checks.refused("4 operations and wrong", Edges.ARGUMENT, () -> Shops.grid(4, 1),
                    p -> p.addOperation(0, 0, a[0], a[1], a[2]));
            Checks.refused("a waiting job and wrong", Edges.ARGUMENT, Shops::waiting,
                    p -> p.addOperation(0, 0, a[0], a[1], a[2]));
        }
        Checks.refused("a placed job", Edges.STATE, Shops::placed, p -> p.addOperation(0, 0, 200, 3, 255));
        Checks.refused("4 operations", Edges.STATE, () -> Shops.grid(4, 1), p -> p.addOperation(0, 0, 200, 3, 255));
        Checks.refused("more tools than 4", Edges.STATE, Shops::waiting, p -> p.addOperation(0, 0, 200, 3, 255));
    }

    /** "throws IndexOutOfBoundsException, IllegalArgumentException" of setSetup */
    private static void setSetup() {
        for (int minutes : new int[] {-1, 61}) {
            Checks.refused("family -1", Edges.INDEX, Shops::placed, p -> p.setSetup(-1, 0, minutes));
            Checks.refused("family 4", Edges.INDEX, Shops::placed, p -> p.setSetup(4, 0, minutes));
            Checks.refused("other -1", Edges.INDEX, Shops::placed, p -> p.setSetup(0, -1, minutes));
            Checks.refused("other 4", Edges.INDEX, Shops::placed, p -> p.setSetup(0, 4, minutes));
        }
    }

    /** "throws IndexOutOfBoundsException, IllegalStateException" of startOf, startByRounds and slack */
    private static void noOperationOfAWaitingJob() {
        for (int operation : new int[] {-1, 2}) {
            Checks.refused("startOf", Edges.INDEX, Shops::waiting, p -> p.startOf(0, operation));
            Checks.refused("startByRounds", Edges.INDEX, Shops::waiting, p -> p.startByRounds(0, operation));
            Checks.refused("slack", Edges.INDEX, Shops::waiting, p -> p.slack(0, operation));
        }
        Checks.refused("startOf, no operations", Edges.INDEX, Shops::waiting, p -> p.startOf(2, 0));
        Checks.refused("startByRounds, no operations", Edges.INDEX, Shops::waiting, p -> p.startByRounds(2, 0));
        Checks.refused("slack, no operations", Edges.INDEX, Shops::waiting, p -> p.slack(2, 0));
    }

    /** "a call that throws changes nothing", be the object as full as it can be, with a breakdown on each machine. */
    private static void refusedCallsOnAFullObject() {
        Checks.refused("addMachine", Edges.STATE, EdgesOfExceptionsTest::full, p -> p.addMachine());
        Checks.refused("setMagazine", Edges.STATE, EdgesOfExceptionsTest::full, p -> p.setMagazine(3, 1));
        Checks.refused("breakdown", Edges.ARGUMENT, EdgesOfExceptionsTest::full, p -> p.breakdown(3, 7, 7));
        Checks.refused("addJob", Edges.STATE, EdgesOfExceptionsTest::full, p -> p.addJob(10000));
        Checks.refused("addOperation", Edges.STATE, EdgesOfExceptionsTest::full, p -> p.addOperation(7, 3, 1, 0, 0));
        Checks.refused("setSetup", Edges.ARGUMENT, EdgesOfExceptionsTest::full, p -> p.setSetup(3, 0, 61));
        Checks.refused("place", Edges.STATE, EdgesOfExceptionsTest::full, p -> p.place(7));
        Checks.refused("rush", Edges.STATE, EdgesOfExceptionsTest::full, p -> p.rush(0));
        Checks.refused("swap", Edges.INDEX, EdgesOfExceptionsTest::full, p -> p.swap(3, 7));
        Checks.refused("swap with a way round", Edges.STATE, EdgesOfExceptionsTest::ring, p -> p.swap(0, 0));
    }

    private static Boreplan full() {
        return broken(Shops.placedGrid(4, 8));
    }

    private static Boreplan ring() {
        return broken(Shops.ring(4));
    }

    private static Boreplan broken(Boreplan plan) {
        for (int machine = 0; machine < 4; machine++) {
            plan.breakdown(machine, 5 + machine, 9 + machine);
        }
        return plan;
    }
}
