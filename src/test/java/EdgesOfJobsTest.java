/** The boundaries that the document names: of jobs and set-ups (under 'Terms') and in promises 6 to 8. */
public final class EdgesOfJobsTest {
    public static void main(String[] args) {
        jobsFromZeroToSeven();
        oneToFourOperations();
        operationsFromZeroToThree();
        familiesFromZeroToThree();
        toolsFromZeroToSeven();
        allOperationsOrNone();
        setupsAreZeroAtFirst();
        familyZeroAtFirst();
        dueInRange();
        jobWithoutOperations();
        numberOfAJob();
        dueOutOfRange();
        noNinthJob();
        operationAtTheEnd();
        lengthInRange();
        familyInRange();
        toolsInRange();
        numberOfAnOperation();
        addOperationToNoJobOrMachine();
        lengthFamilyOrToolsOutOfRange();
        noFifthOperation();
        noOperationOfAPlacedJob();
        noMoreToolsThanTheCapacity();
        minutesInRange();
        setupToItself();
        setupBefore();
        setSetupOfNoFamily();
        minutesOutOfRange();
        Checks.end();
    }

    /** A machine for all tools, and a job of so many operations that waits. */
    private static Boreplan operations(int count) {
        Boreplan plan = Shops.jobs(1, 1);
        plan.setMagazine(0, 8);
        for (int i = 0; i < count; i++) {
            plan.addOperation(0, 0, 1, 0, 0);
        }
        return plan;
    }

    /** Jobs: "There are at most 8, numbered from 0" */
    private static void jobsFromZeroToSeven() {
        Edges.jobNumbers("job", jobs -> Shops.jobs(1, jobs), (p, j) -> p.addOperation(j, 0, 1, 0, 0));
    }

    /** Jobs: "each with a due minute and 1 to 4 operations" */
    private static void oneToFourOperations() {
        Checks.refused("place with 0", Edges.STATE, () -> operations(0), p -> p.place(0));
        for (int count = 1; count <= 4; count++) {
            Checks.due("place with " + count, operations(count).place(0), count);
            Checks.due("one more than " + (count - 1), operations(count - 1).addOperation(0, 0, 1, 0, 0), count - 1);
        }
        Checks.refused("one more than 4", Edges.STATE, () -> operations(4), p -> p.addOperation(0, 0, 1, 0, 0));
    }

    /** Jobs: "operations, numbered from 0 in their order" */
    private static void operationsFromZeroToThree() {
        Edges.operationNumbers("operation", (p, i) -> p.startOf(0, i));
        Boreplan plan = operations(4);
        plan.place(0);
        for (int i = 0; i < 4; i++) {
            Checks.due("in their order", plan.startOf(0, i), i);
        }
    }

    /** Jobs: "a family, 0 to 3" */
    private static void familiesFromZeroToThree() {
        Boreplan plan = operations(0);
        for (int family = 0; family < 4; family++) {
            plan.addOperation(0, 0, 1, family, 0);
            plan.setSetup(family, (family + 1) % 4, 10 + family);
        }
        plan.place(0);
        Checks.due("the set-ups from each of the four to the next one", plan.setups(0), 33);
        for (int family : new int[] {-1, 4}) {
            Checks.refused("family " + family, Edges.ARGUMENT, () -> operations(0),
                    p -> p.addOperation(0, 0, 1, family, 0));
        }
    }

    /** Jobs: "a set of tools of the 8 tools 0 to 7" */
    private static void toolsFromZeroToSeven() {
        Boreplan plan = Shops.jobs(1, 8);
        for (int tool = 0; tool < 8; tool++) {
            plan.addOperation(tool, 0, 1, 0, 1 << tool);
            plan.place(tool);
            Checks.due("tool " + tool + " is one more", plan.loads(0), tool + 1);
        }
        Checks.refused("tool 8", Edges.ARGUMENT, () -> operations(0), p -> p.addOperation(0, 0, 1, 0, 1 << 8));
    }

    /** Jobs: "A job is placed, with all its operations, or not." */
    private static void allOperationsOrNone() {
        Boreplan plan = Shops.grid(4, 2);
        String[] none = {"", "", "", ""};
        String[] all = {"0 10", "1 11", "2 12", "3 13"};
        String[] one = {"10", "11", "12", "13"};
        rowsAre("ahead of place", plan, none);
        plan.place(0);
        plan.place(1);
        rowsAre("behind place", plan, all);
        plan.remove(0);
        rowsAre("behind remove", plan, one);
        plan.remove(1);
        rowsAre("behind both removes", plan, none);
        plan.rush(1);
        rowsAre("behind rush", plan, one);
    }

    private static void rowsAre(String when, Boreplan plan, String[] rows) {
        for (int machine = 0; machine < rows.length; machine++) {
            Checks.due("row " + machine + " " + when, Checks.row(plan, machine), rows[machine]);
        }
    }

    /** Set-ups: "From each family to each family there is a set-up in minutes, 0 at first." */
    private static void setupsAreZeroAtFirst() {
        for (int pair = 0; pair < 16; pair++) {
            Checks.due("set-up at first", new Boreplan().setSetup(pair / 4, pair % 4, 60), 0);
            Boreplan plan = Shops.machines(1);
            Shops.single(plan, 0, 5, pair / 4);
            Shops.single(plan, 0, 5, pair % 4);
            Checks.due("span() at first", plan.span(), 10);
            plan.setSetup(pair / 4, pair % 4, 60);
            Checks.due("from start to start with a set-up", plan.startOf(1, 0) - plan.startOf(0, 0), 65);
        }
    }

    /** Set-ups: "A machine is set up for the family 0 at first." */
    private static void familyZeroAtFirst() {
        for (int machine = 0; machine < 4; machine++) {
            for (int family = 0; family < 4; family++) {
                Boreplan plan = Shops.machines(4);
                for (int pair = 0; pair < 16; pair++) {
                    plan.setSetup(pair / 4, pair % 4, 10 + pair);
                }
                Shops.single(plan, machine, 5, family);
                Checks.due("the first one on " + machine, plan.startOf(0, 0), 10 + family);
                plan.remove(0);
                Shops.single(plan, machine, 5, 3 - family);
                Checks.due("again, when the machine is empty", plan.startOf(1, 0), 13 - family);
            }
        }
    }

    /** Promise 6: "- `due`: 0 to 10000" */
    private static void dueInRange() {
        for (int length = 1; length <= 3; length++) {
            Boreplan plan = Shops.machines(1);
            plan.addJob(10000);
            plan.addJob(0);
            plan.addOperation(0, 0, length, 0, 0);
            plan.addOperation(1, 0, 1, 0, 0);
            plan.breakdown(0, 0, 9998);
            plan.place(0);
            Checks.due("due 10000, finish " + (9998 + length), plan.lateness(0), Math.max(0, length - 2));
            plan.place(1);
            Checks.due("due 0", plan.lateness(1), 9999 + length);
        }
        for (int due : new int[] {-1, 10001}) {
            Checks.due("due " + due, Checks.thrownBy(() -> new Boreplan().addJob(due)), "IllegalArgumentException");
        }
    }

    /** Promise 6: "Throws `IllegalArgumentException` if due is out of range" */
    private static void dueOutOfRange() {
        Edges.range("due", 0, 10000, Edges.ARGUMENT, Shops::placed, (p, due) -> p.addJob(due));
    }

    /** Promise 6: "Adds a job without operations." */
    private static void jobWithoutOperations() {
        Edges.range("operation of a new job", 0, -1, Edges.INDEX, () -> Shops.jobs(1, 1), (p, i) -> p.startOf(0, i));
        Checks.refused("place of a new job", Edges.STATE, () -> Shops.jobs(1, 1), p -> p.place(0));
        Checks.due("its first operation", Shops.jobs(1, 1).addOperation(0, 0, 1, 0, 0), 0);
    }

    /** Promise 6: "Returns its number." */
    private static void numberOfAJob() {
        Boreplan plan = new Boreplan();
        for (int number = 0; number < 8; number++) {
            Checks.due("addJob", plan.addJob(5), number);
        }
    }

    /** Promise 6: "Throws `IllegalStateException` if there are 8" */
    private static void noNinthJob() {
        Checks.due("the eighth job", Shops.jobs(1, 7).addJob(0), 7);
        Checks.refused("the ninth job", Edges.STATE, () -> Shops.jobs(1, 8), p -> p.addJob(0));
    }

    /** Promise 7: "Adds an operation at the end of a job." */
    private static void operationAtTheEnd() {
        Boreplan plan = Shops.jobs(4, 1);
        for (int number = 0; number < 4; number++) {
            plan.addOperation(0, 3 - number, 1, 0, 0);
        }
        plan.place(0);
        for (int number = 0; number < 4; number++) {
            Checks.due("the machine of " + number, plan.placedAt(3 - number, 0), number);
            Checks.due("the start of " + number, plan.startOf(0, number), number);
        }
    }

    /** Promise 7: "- `length`: 1 to 200" */
    private static void lengthInRange() {
        for (int length : new int[] {1, 2, 199, 200}) {
            Checks.due("span() by the length", Shops.row(length).span(), length);
        }
        for (int length : new int[] {0, 201}) {
            Checks.due("length " + length, Checks.thrownBy(() -> operations(0).addOperation(0, 0, length, 0, 0)),
                    "IllegalArgumentException");
        }
    }

    /** Promise 7: "- `family`: 0 to 3" */
    private static void familyInRange() {
        for (int family = 0; family < 4; family++) {
            Boreplan plan = operations(0);
            plan.setSetup(0, family, 10 + family);
            plan.addOperation(0, 0, 1, family, 0);
            Checks.due("span() by the family", plan.place(0), 11 + family);
        }
        for (int family : new int[] {-1, 4}) {
            Checks.due("family " + family, Checks.thrownBy(() -> operations(0).addOperation(0, 0, 1, family, 0)),
                    "IllegalArgumentException");
        }
    }

    /** Promise 7: "- `tools`: the sum of 2 to the power of the tool over the tools that it needs, 0 to 255" */
    private static void toolsInRange() {
        for (int tools = 0; tools < 256; tools++) {
            Boreplan plan = operations(0);
            plan.addOperation(0, 0, 1, 0, tools);
            plan.place(0);
            Checks.due("loads(0) of " + tools, plan.loads(0), Integer.bitCount(tools));
        }
        for (int tools : new int[] {-1, 256}) {
            Checks.due("tools " + tools, Checks.thrownBy(() -> operations(0).addOperation(0, 0, 1, 0, tools)),
                    "IllegalArgumentException");
        }
    }

    /** Promise 7: "Returns its number." */
    private static void numberOfAnOperation() {
        Boreplan plan = Shops.jobs(4, 2);
        for (int number = 0; number < 4; number++) {
            Checks.due("addOperation to job 0", plan.addOperation(0, 3 - number, 1, 0, 0), number);
            Checks.due("addOperation to job 1", plan.addOperation(1, number, 1, 0, 0), number);
        }
    }

    /** Promise 7: "Throws `IllegalArgumentException` if length, family or tools is out of range" */
    private static void lengthFamilyOrToolsOutOfRange() {
        Edges.range("length", 1, 200, Edges.ARGUMENT, () -> operations(1),
                (p, length) -> p.addOperation(0, 0, length, 0, 0));
        Edges.range("family", 0, 3, Edges.ARGUMENT, () -> operations(1),
                (p, family) -> p.addOperation(0, 0, 1, family, 0));
        Edges.range("tools", 0, 255, Edges.ARGUMENT, () -> operations(1),
                (p, tools) -> p.addOperation(0, 0, 1, 0, tools));
    }

    /** Promise 7: "Throws `IndexOutOfBoundsException` if there is no such job or machine" */
    private static void addOperationToNoJobOrMachine() {
        Edges.jobNumbers("job", jobs -> Shops.grid(2, jobs), (p, j) -> p.addOperation(j, 1, 1, 0, 0));
        for (int count = 0; count <= 4; count++) {
            int machines = count;
            Edges.range("machine of " + count, 0, count - 1, Edges.INDEX, () -> Shops.jobs(machines, 1),
                    (p, m) -> p.addOperation(0, m, 1, 0, 0));
        }
    }

    /** Promise 7: "Throws `IllegalStateException` if the job has 4 operations" */
    private static void noFifthOperation() {
        Checks.due("the fourth operation", operations(3).addOperation(0, 0, 1, 0, 0), 3);
        Checks.refused("the fifth operation", Edges.STATE, () -> operations(4), p -> p.addOperation(0, 0, 1, 0, 0));
        Boreplan next = Shops.grid(4, 1);
        next.addJob(0);
        Checks.due("another job has its own count", next.addOperation(1, 0, 1, 0, 0), 0);
    }

    /** Promise 7: "Throws `IllegalStateException` if the job ... is placed" */
    private static void noOperationOfAPlacedJob() {
        Edges.onlyIfWaiting("addOperation", p -> p.addOperation(1, 0, 1, 0, 0));
        Checks.due("another job is placed", Shops.placed().addOperation(2, 0, 1, 0, 0), 0);
    }

    /** Promise 7: "or it needs more tools than the capacity of the machine's magazine" */
    private static void noMoreToolsThanTheCapacity() {
        for (int capacity = 1; capacity < 8; capacity++) {
            int most = capacity;
            int highest = 256 - (1 << (8 - capacity));
            Edges.allowed("the first " + most, () -> capacity(most), p -> p.addOperation(0, 0, 1, 0, (1 << most) - 1));
            Edges.allowed("the last " + most, () -> capacity(most), p -> p.addOperation(0, 0, 1, 0, highest));
            Checks.refused("one more than the last " + most, Edges.STATE, () -> capacity(most),
                    p -> p.addOperation(0, 0, 1, 0, highest | 1));
            Checks.refused("one more than the first " + most, Edges.STATE, () -> capacity(most),
                    p -> p.addOperation(0, 0, 1, 0, (2 << most) - 1));
        }
        Edges.allowed("8 of 8", () -> capacity(8), p -> p.addOperation(0, 0, 1, 0, 255));
    }

    /** The machine 0 of this capacity, another one of the greatest, and a job. */
    private static Boreplan capacity(int capacity) {
        Boreplan plan = Shops.jobs(2, 1);
        plan.setMagazine(0, capacity);
        plan.setMagazine(1, 8);
        return plan;
    }

    /** Promise 8: "- `minutes`: 0 to 60" */
    private static void minutesInRange() {
        for (int minutes : new int[] {0, 1, 59, 60}) {
            Boreplan plan = Shops.row(5, 5);
            plan.setSetup(0, 0, minutes);
            Checks.due("span() with set-ups", plan.span(), 10 + 2 * minutes);
        }
        for (int minutes : new int[] {-1, 61}) {
            Checks.due("minutes " + minutes, Checks.thrownBy(() -> new Boreplan().setSetup(0, 0, minutes)),
                    "IllegalArgumentException");
        }
    }

    /** Promise 8: "Sets the set-up from a family to another one, or from one to itself." */
    private static void setupToItself() {
        Boreplan plan = Shops.machines(1);
        Shops.single(plan, 0, 5, 2);
        Shops.single(plan, 0, 5, 2);
        Shops.single(plan, 0, 5, 3);
        plan.setSetup(2, 2, 7);
        Checks.due("from 2 to itself", plan.setups(0), 7);
        plan.setSetup(2, 3, 9);
        Checks.due("from 2 to another one", plan.setups(0), 16);
        plan.setSetup(3, 2, 11);
        Checks.due("not the other way", plan.setups(0), 16);
    }

    /** Promise 8: "Returns the set-up before." */
    private static void setupBefore() {
        Boreplan plan = new Boreplan();
        Checks.due("the first time", plan.setSetup(3, 0, 60), 0);
        Checks.due("the other way", plan.setSetup(0, 3, 1), 0);
        Checks.due("behind 60", plan.setSetup(3, 0, 0), 60);
        Checks.due("behind 0", plan.setSetup(3, 0, 0), 0);
        Checks.thrownBy(() -> plan.setSetup(0, 3, 61));
        Checks.due("behind one that was refused", plan.setSetup(0, 3, 2), 1);
    }

    /** Promise 8: "Throws `IndexOutOfBoundsException` if there is no such family, or no such other one" */
    private static void setSetupOfNoFamily() {
        Edges.range("family", 0, 3, Edges.INDEX, Shops::placed, (p, family) -> p.setSetup(family, 0, 1));
        Edges.range("other", 0, 3, Edges.INDEX, Shops::placed, (p, other) -> p.setSetup(0, other, 1));
        Edges.range("family to 3", 0, 3, Edges.INDEX, Shops::placed, (p, family) -> p.setSetup(family, 3, 1));
        Edges.range("other from 3", 0, 3, Edges.INDEX, Shops::placed, (p, other) -> p.setSetup(3, other, 1));
    }

    /** Promise 8: "Throws `IllegalArgumentException` if minutes is out of range" */
    private static void minutesOutOfRange() {
        for (int count = 0; count < 16; count++) {
            int pair = count;
            Edges.range("minutes", 0, 60, Edges.ARGUMENT, Shops::placed,
                    (p, minutes) -> p.setSetup(pair / 4, pair % 4, minutes));
        }
    }
}
