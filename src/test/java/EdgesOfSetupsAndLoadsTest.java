/** The boundaries that the document names: of tools (under 'Terms') and in promises 22 and 23. */
public final class EdgesOfSetupsAndLoadsTest {
    public static void main(String[] args) {
        setupOfTheFirstOne();
        setupsOfNoMachine();
        magazineEmptyAtFirst();
        takenOutOnlyIfFull();
        takenOutOnlyIfNotNeeded();
        takenOutAsLittleAsCanBe();
        loadsOfNoMachine();
        Checks.end();
    }

    /** Promise 22: "Returns the sum of all set-ups on a machine, that of its first operation counted." */
    private static void setupOfTheFirstOne() {
        Boreplan plan = Shops.machines(2);
        plan.setSetup(0, 1, 60);
        plan.setSetup(1, 1, 7);
        Checks.due("no operation", plan.setups(0), 0);
        for (int count = 0; count < 8; count++) {
            Shops.single(plan, 0, 1, 1);
            Checks.due("the first one and " + count + " others", plan.setups(0), 60 + 7 * count);
        }
        Checks.due("the other machine", plan.setups(1), 0);
        plan.setSetup(0, 1, 0);
        Checks.due("no set-up of the first one", plan.setups(0), 49);
    }

    /** Promise 22: "Throws `IndexOutOfBoundsException` if there is no such machine" */
    private static void setupsOfNoMachine() {
        Edges.machineNumbers("setups", (p, m) -> p.setups(m));
    }

    /** The loads of a machine with a magazine whose operations need these sets of tools. */
    private static int loads(int capacity, int... sets) {
        Boreplan plan = Shops.jobs(1, 8);
        plan.setMagazine(0, capacity);
        for (int i = 0; i < sets.length; i++) {
            plan.addOperation(i / 4, 0, 1, 0, sets[i]);
        }
        for (int job = 0; 4 * job < sets.length; job++) {
            plan.place(job);
        }
        return plan.loads(0);
    }

    /** Tools: "in the magazine one after the other, which is empty at first; a tool that is missing is put in" */
    private static void magazineEmptyAtFirst() {
        Checks.due("no operation", loads(8), 0);
        Checks.due("no tool", loads(1, 0), 0);
        for (int capacity = 1; capacity <= 8; capacity++) {
            int all = (1 << capacity) - 1;
            Checks.due("all of the first one", loads(capacity, all), capacity);
            Checks.due("none of them twice", loads(capacity, all, 0, all, 1, all), capacity);
        }
        Boreplan again = Shops.jobs(1, 1);
        again.addOperation(0, 0, 1, 0, 0b1111);
        again.place(0);
        again.remove(0);
        Checks.due("removed", again.loads(0), 0);
        again.place(0);
        Checks.due("empty again", again.loads(0), 4);
    }

    /** Tools: "and if the magazine is full, another one is taken out for it": so many tools, then one more, in turn. */
    private static void takenOutOnlyIfFull() {
        for (int capacity = 1; capacity <= 8; capacity++) {
            int[] fits = new int[3 * capacity];
            for (int i = 0; i < fits.length; i++) {
                fits[i] = 1 << i % capacity;
            }
            Checks.due("as many tools as the capacity " + capacity, loads(capacity, fits), capacity);
            if (capacity > 1 && capacity < 8) {
                int[] more = new int[2 * (capacity + 1)];
                for (int i = 0; i < more.length; i++) {
                    more[i] = 1 << i % (capacity + 1);
                }
                // the last of the first turn takes the place of the one that the second turn needs last
                Checks.due("one tool more than the capacity " + capacity, loads(capacity, more), capacity + 2);
            }
        }
        Checks.due("one tool more than the capacity 1", loads(1, 1, 2, 1, 2), 4);
    }

    /** Tools: "another one is taken out for it that the operation does not need": each operation leaves one such. */
    private static void takenOutOnlyIfNotNeeded() {
        for (int capacity = 2; capacity <= 7; capacity++) {
            int all = (1 << capacity + 1) - 1;
            int first = all & ~1;
            int second = all & ~2;
            Checks.due("the only one that is not needed", loads(capacity, first, second), capacity + 1);
            Checks.due("by turns", loads(capacity, first, second, first, second), capacity + 3);
        }
        Checks.due("all that are not needed", loads(4, 0b1111, 0b11110000, 0b1111), 12);
        Checks.due("all but one of them", loads(4, 0b1111, 0b11101000, 0b1111), 10);
    }

    /** Tools: "The loads of a machine are the least number of times that a tool is put in." */
    private static void takenOutAsLittleAsCanBe() {
        Checks.due("keep what is needed next", loads(2, 1, 2, 4, 1, 2), 4);
        Checks.due("keep the other one, needed next", loads(2, 1, 2, 4, 2, 1), 4);
        Checks.due("keep what is needed at all", loads(2, 1, 2, 4, 1, 4, 1), 3);
        Checks.due("keep the other one, needed at all", loads(2, 1, 2, 4, 2, 4, 2), 3);
        Checks.due("needed next by the last of all", loads(2, 1, 2, 4, 0, 0, 0, 0, 1), 3);
        Checks.due("sets: two of three that are needed sooner", loads(3, 0b111, 0b1000, 0b11, 0b1000, 0b100), 5);
    }

    /** Promise 23: "Throws `IndexOutOfBoundsException` if there is no such machine" */
    private static void loadsOfNoMachine() {
        Edges.machineNumbers("loads", (p, m) -> p.loads(m));
    }
}
