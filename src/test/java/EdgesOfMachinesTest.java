/** The boundaries that the document names: of an object, of machines (under 'Terms') and in promises 1 to 5. */
public final class EdgesOfMachinesTest {
    public static void main(String[] args) {
        atMost512Calls();
        newObject();
        machinesFromZeroToThree();
        capacityAtFirst();
        breakdownWithoutItsLastMinute();
        atMostOneBreakdown();
        numberOfAMachine();
        noFifthMachine();
        capacityFromOneToEight();
        capacityBefore();
        setMagazineOfNoMachine();
        capacityOutOfRange();
        magazineTooSmallForAnOperation();
        magazineTooSmallForSomeJob();
        fromFirstMinuteOn();
        toBehindTheLastMinute();
        fromOrToOutOfRange();
        breakdownInPlaceOfTheOneBefore();
        spanWithABreakdown();
        breakdownOfNoMachine();
        repairTakesBack();
        repairOnlyIfThereWasOne();
        repairOfNoMachine();
        Checks.end();
    }

    /** "An object is used for at most 512 calls after it has been made; what later calls answer is free." */
    private static void atMost512Calls() {
        Boreplan plan = Shops.jobs(1, 1);
        plan.addOperation(0, 0, 5, 0, 1);
        for (int call = 4; call < 512; call += 2) {
            Checks.due("call " + call + ", place", plan.place(0), 5);
            Checks.due("call " + (call + 1) + ", remove", plan.remove(0), 0);
        }
        Checks.due("call 512, rush", plan.rush(0), 5);
    }

    /** Promise 1: "Begins without machines and jobs." */
    private static void newObject() {
        Edges.range("the first machine", 0, -1, Edges.INDEX, Boreplan::new, (p, m) -> p.placed(m));
        Edges.range("the first job", 0, -1, Edges.INDEX, Boreplan::new, (p, j) -> p.lateness(j));
        Checks.due("addMachine() of a new object", new Boreplan().addMachine(), 0);
        Checks.due("addJob(0) of a new object", new Boreplan().addJob(0), 0);
        Checks.due("span() of a new object", new Boreplan().span(), 0);
        Checks.due("criticals() of a new object", new Boreplan().criticals(), 0);
    }

    /** Machines: "There are at most 4, numbered from 0." */
    private static void machinesFromZeroToThree() {
        for (int count = 0; count <= 4; count++) {
            int machines = count;
            Edges.range("machine of " + count, 0, count - 1, Edges.INDEX, () -> Shops.machines(machines),
                    (p, m) -> p.placed(m));
        }
    }

    /** Machines: "a magazine for tools with a capacity, 4 at first" */
    private static void capacityAtFirst() {
        for (int machine = 0; machine < 4; machine++) {
            int m = machine;
            Edges.allowed("four tools on " + m, () -> Shops.jobs(4, 1), p -> p.addOperation(0, m, 1, 0, 0b11110000));
            Checks.refused("five tools on " + m, Edges.STATE, () -> Shops.jobs(4, 1),
                    p -> p.addOperation(0, m, 1, 0, 0b11111));
            Checks.due("the capacity before of " + m, Shops.machines(4).setMagazine(m, 8), 4);
        }
    }

    /** Machines: "the minutes from one to another one, the latter not counted" */
    private static void breakdownWithoutItsLastMinute() {
        Boreplan plan = Shops.row(5, 3);
        plan.breakdown(0, 5, 8);
        Checks.due("5 to 8: one is done ahead of 5", plan.startOf(0, 0), 0);
        Checks.due("5 to 8: one runs from 8 on", plan.startOf(1, 0), 8);
        plan.breakdown(0, 4, 8);
        Checks.due("4 to 8: the minute 4 is broken", plan.startOf(0, 0), 8);
        plan.breakdown(0, 5, 6);
        Checks.due("5 to 6 is one minute", plan.startOf(1, 0), 6);
    }

    /** Machines: "at most one breakdown" */
    private static void atMostOneBreakdown() {
        Boreplan plan = Shops.row(5);
        plan.breakdown(0, 0, 7);
        plan.breakdown(0, 7, 9);
        Checks.due("the first one is gone", plan.startOf(0, 0), 0);
        Checks.due("repair of the second one", plan.repair(0), true);
        Checks.due("there is no other one", plan.repair(0), false);
        Checks.due("span() then", plan.span(), 5);
    }

    /** Promise 2: "Returns its number." */
    private static void numberOfAMachine() {
        Boreplan plan = new Boreplan();
        for (int number = 0; number < 4; number++) {
            Checks.due("addMachine()", plan.addMachine(), number);
        }
    }

    /** Promise 2: "Throws `IllegalStateException` if there are 4" */
    private static void noFifthMachine() {
        Checks.due("the fourth machine", Shops.machines(3).addMachine(), 3);
        Checks.refused("the fifth machine", Edges.STATE, () -> Shops.machines(4), p -> p.addMachine());
    }

    /** Promise 3: "- `capacity`: 1 to 8"; each of these is the greatest number of tools then, 0 and 9 never are. */
    private static void capacityFromOneToEight() {
        for (int capacity = 1; capacity <= 8; capacity++) {
            int tools = (1 << capacity) - 1;
            Boreplan plan = Shops.jobs(1, 1);
            plan.setMagazine(0, capacity);
            Checks.due("so many tools as the capacity", plan.addOperation(0, 0, 1, 0, tools), 0);
            plan.setMagazine(0, capacity);
            String answer = Checks.thrownBy(() -> plan.addOperation(0, 0, 1, 0, 2 * tools + 1));
            Checks.due("one more than " + capacity, answer,
                    capacity == 8 ? "IllegalArgumentException" : "IllegalStateException");
        }
        for (int capacity : new int[] {0, 9}) {
            Boreplan plan = Shops.jobs(1, 1);
            Checks.due("capacity " + capacity, Checks.thrownBy(() -> plan.setMagazine(0, capacity)),
                    "IllegalArgumentException");
            Checks.due("four tools as before", plan.addOperation(0, 0, 1, 0, 0b1111), 0);
        }
    }

    /** Promise 3: "Returns the capacity before." */
    private static void capacityBefore() {
        Boreplan plan = Shops.machines(2);
        Checks.due("the first time", plan.setMagazine(1, 8), 4);
        Checks.due("behind 8", plan.setMagazine(1, 1), 8);
        Checks.due("behind 1", plan.setMagazine(1, 1), 1);
        Checks.thrownBy(() -> plan.setMagazine(1, 9));
        Checks.due("behind one that was refused", plan.setMagazine(1, 2), 1);
        Checks.due("the other machine", plan.setMagazine(0, 2), 4);
    }

    /** Promise 3: "Throws `IllegalArgumentException` if capacity is out of range" */
    private static void capacityOutOfRange() {
        Edges.range("capacity", 1, 8, Edges.ARGUMENT, () -> Shops.machines(2), (p, c) -> p.setMagazine(1, c));
    }

    /** Promise 3: "Throws `IndexOutOfBoundsException` if there is no such machine" */
    private static void setMagazineOfNoMachine() {
        Edges.machineNumbers("setMagazine", (p, m) -> p.setMagazine(m, 8));
    }

    /** A machine with the capacity 8, next to another one, and a job with an operation that needs so many tools. */
    private static Boreplan needing(int tools, boolean placed) {
        Boreplan plan = Shops.jobs(2, 1);
        plan.setMagazine(0, 8);
        plan.setMagazine(1, 8);
        plan.addOperation(0, 0, 1, 0, (1 << tools) - 1);
        plan.addOperation(0, 1, 1, 0, 255);
        if (placed) {
            plan.place(0);
        }
        return plan;
    }

    /**
     * Promise 3: "Throws `IllegalStateException` if an operation of some job on this machine, placed or not, needs
     * more tools"
     */
    private static void magazineTooSmallForAnOperation() {
        for (int count = 2; count <= 8; count++) {
            int tools = count;
            for (boolean placed : new boolean[] {false, true}) {
                String call = "placed " + placed + ", " + tools + " tools, capacity ";
                Edges.allowed(call + tools, () -> needing(tools, placed), p -> p.setMagazine(0, tools));
                Checks.refused(call + (tools - 1), Edges.STATE, () -> needing(tools, placed),
                        p -> p.setMagazine(0, tools - 1));
            }
        }
        Edges.allowed("no tools, capacity 1", () -> needing(0, true), p -> p.setMagazine(0, 1));
        Edges.allowed("one tool, capacity 1", () -> needing(1, true), p -> p.setMagazine(0, 1));
        Boreplan removed = needing(6, true);
        removed.remove(0);
        Checks.due("5 for 6, removed", Checks.thrownBy(() -> removed.setMagazine(0, 5)), "IllegalStateException");
        Checks.due("6 for 6, removed", removed.setMagazine(0, 6), 8);
    }

    /** Promise 3, the same sentence: "an operation of some job on this machine", be it the first or the last one. */
    private static void magazineTooSmallForSomeJob() {
        for (int greatest = 0; greatest < 32; greatest++) {
            Boreplan plan = Shops.jobs(1, 8);
            for (int i = 0; i < 32; i++) {
                plan.addOperation(i / 4, 0, 1, 0, i == greatest ? 0b11110000 : 0b111);
            }
            String answer = Checks.thrownBy(() -> plan.setMagazine(0, 3));
            Checks.due("3 for 4 of the operation " + greatest, answer, "IllegalStateException");
            Checks.due("4 for 4 of the operation " + greatest, plan.setMagazine(0, 4), 4);
        }
    }

    /** Shops.placed() with a breakdown on machine 0 that puts its operations later. */
    private static Boreplan broken() {
        Boreplan plan = Shops.placed();
        plan.breakdown(0, 4, 6);
        return plan;
    }

    /** Job 0 waits for a breakdown of machine 1 and comes to machine 0 in the minute 9990, for 9 or 10 minutes. */
    private static Boreplan late(int length) {
        Boreplan plan = Shops.jobs(2, 1);
        plan.addOperation(0, 1, 1, 0, 0);
        plan.addOperation(0, 0, length, 0, 0);
        plan.breakdown(1, 0, 9989);
        plan.place(0);
        return plan;
    }

    /** Promise 4: "- `from`: 0 to 9999: the first minute" */
    private static void fromFirstMinuteOn() {
        Checks.due("from the first minute 0", Shops.row(5).breakdown(0, 0, 1), 6);
        Checks.due("from the last minute that it needs", Shops.row(5).breakdown(0, 4, 5), 10);
        Checks.due("from the minute behind that", Shops.row(5).breakdown(0, 5, 6), 5);
        Checks.due("from 9999, which it does not need", late(9).breakdown(0, 9999, 10000), 9999);
        Checks.due("from 9999, which it needs", late(10).breakdown(0, 9999, 10000), 10010);
        Edges.range("one minute, from", 0, 9999, Edges.ARGUMENT, EdgesOfMachinesTest::broken,
                (p, from) -> p.breakdown(0, from, from + 1));
    }

    /** Promise 4: "- `to`: from + 1 to 10000: the minute behind the last one" */
    private static void toBehindTheLastMinute() {
        Checks.due("to the minute 1", Shops.row(5).breakdown(0, 0, 1), 6);
        Checks.due("to the minute 2", Shops.row(5).breakdown(0, 0, 2), 7);
        Checks.due("to the minute 10000", Shops.row(5).breakdown(0, 0, 10000), 10005);
        Checks.due("one that is ready in the minute to", Shops.row(5, 5).breakdown(0, 4, 5), 15);
        for (int first : new int[] {0, 1, 5, 9998, 9999}) {
            Edges.range("from " + first + ", to", first + 1, 10000, Edges.ARGUMENT, Shops::placed,
                    (p, to) -> p.breakdown(1, first, to));
        }
    }

    /** Promise 4: "Throws `IllegalArgumentException` if from or to is out of range" */
    private static void fromOrToOutOfRange() {
        Edges.range("to 10000, from", 0, 9999, Edges.ARGUMENT, EdgesOfMachinesTest::broken,
                (p, from) -> p.breakdown(0, from, 10000));
        Edges.range("from 0, to", 1, 10000, Edges.ARGUMENT, EdgesOfMachinesTest::broken,
                (p, to) -> p.breakdown(0, 0, to));
        Checks.refused("both", Edges.ARGUMENT, EdgesOfMachinesTest::broken, p -> p.breakdown(0, -1, 10001));
        Checks.refused("to ahead of from", Edges.ARGUMENT, EdgesOfMachinesTest::broken, p -> p.breakdown(0, 6, 5));
    }

    /** Promise 4: "Tells a breakdown of a machine, in place of the one before." */
    private static void breakdownInPlaceOfTheOneBefore() {
        Boreplan plan = Shops.row(5, 5);
        Checks.due("the first one", plan.breakdown(0, 0, 3), 13);
        Checks.due("another one, of a minute that the first one has", plan.breakdown(0, 2, 3), 13);
        Checks.due("startOf(0, 0)", plan.startOf(0, 0), 3);
        Checks.due("another one, behind the first one", plan.breakdown(0, 5, 6), 11);
        Checks.due("startOf(0, 0) then", plan.startOf(0, 0), 0);
        Checks.thrownBy(() -> plan.breakdown(0, 6, 6));
        Checks.due("the one before a refused one stays", plan.span(), 11);
    }

    /** Promise 4: "Returns the span then." */
    private static void spanWithABreakdown() {
        Checks.due("nothing placed", Shops.waiting().breakdown(0, 0, 10000), 0);
        Checks.due("behind all", Shops.row(5, 5).breakdown(0, 10, 20), 10);
        Checks.due("a minute ahead of that", Shops.row(5, 5).breakdown(0, 9, 20), 25);
        Boreplan other = Shops.row(5);
        other.addMachine();
        Checks.due("on a machine without operations", other.breakdown(1, 0, 10000), 5);
    }

    /** Promise 4: "Throws `IndexOutOfBoundsException` if there is no such machine" */
    private static void breakdownOfNoMachine() {
        Edges.machineNumbers("breakdown", (p, m) -> p.breakdown(m, 0, 1));
    }

    /** Promise 5: "Takes the breakdown of a machine back.", that of no other one. */
    private static void repairTakesBack() {
        Boreplan plan = Shops.row(5);
        plan.addMachine();
        plan.breakdown(0, 0, 3);
        plan.repair(1);
        Checks.due("span() when another machine is repaired", plan.span(), 8);
        plan.repair(0);
        Checks.due("span() when it is repaired", plan.span(), 5);
        Checks.due("startOf(0, 0) when it is repaired", plan.startOf(0, 0), 0);
    }

    /** Promise 5: "Returns true if there was one." */
    private static void repairOnlyIfThereWasOne() {
        Boreplan plan = Shops.row(5);
        plan.addMachine();
        Checks.due("there never was one", plan.repair(0), false);
        plan.breakdown(0, 0, 3);
        Checks.due("on another machine", plan.repair(1), false);
        Checks.due("there is one", plan.repair(0), true);
        Checks.due("a second time", plan.repair(0), false);
        plan.breakdown(0, 9999, 10000);
        Checks.due("one that meets no operation", plan.repair(0), true);
        plan.breakdown(0, 0, 1);
        Checks.thrownBy(() -> plan.breakdown(0, 0, 0));
        Checks.due("behind one that was refused", plan.repair(0), true);
        Checks.thrownBy(() -> plan.breakdown(0, 0, 0));
        Checks.due("none, and one that was refused", plan.repair(0), false);
    }

    /** Promise 5: "Throws `IndexOutOfBoundsException` if there is no such machine" */
    private static void repairOfNoMachine() {
        Edges.machineNumbers("repair", (p, m) -> p.repair(m));
    }
}
