/** Promises 9 to 14: place, rush, remove, swap, placed, placedAt. */
public final class PlacingTest {
    public static void main(String[] args) {
        place();
        rushTakesTheLeastSpan();
        rushTakesTheLeastStartThen();
        rushTakesTheFirstPlaceThen();
        rushKeepsTheOrderOfAJob();
        rushLooksNoStepAhead();
        remove();
        swap();
        placedAndPlacedAt();
        Checks.end();
    }

    private static void place() {
        Boreplan plan = Shops.waiting();
        Checks.due("place(1)", plan.place(1), 11);
        Checks.due("place(0)", plan.place(0), 22);
        Checks.due("row 0", Checks.row(plan, 0), "11 0");
        Checks.due("row 1", Checks.row(plan, 1), "10 1");
        Boreplan same = Shops.machines(1);
        same.addJob(0);
        same.addOperation(0, 0, 3, 0, 0);
        same.addOperation(0, 0, 2, 0, 0);
        same.addOperation(0, 0, 4, 0, 0);
        Checks.due("a job on one machine", same.place(0), 9);
        Checks.due("its row", Checks.row(same, 0), "0 1 2");
    }

    /** The set-ups make the middle of the row the best place. */
    private static void rushTakesTheLeastSpan() {
        Boreplan plan = Shops.machines(1);
        plan.setSetup(0, 1, 10);
        plan.setSetup(1, 0, 10);
        plan.setSetup(0, 2, 10);
        plan.setSetup(1, 2, 10);
        plan.setSetup(2, 0, 10);
        plan.setSetup(2, 1, 10);
        int[] families = {0, 1, 2};
        for (int i = 0; i < 3; i++) {
            plan.addJob(0);
            plan.addOperation(i, 0, 5, families[i], 0);
            plan.place(i);
        }
        plan.addJob(0);
        plan.addOperation(3, 0, 5, 1, 0);
        Checks.due("rush(3)", plan.rush(3), 40);
        Checks.due("its row", Checks.row(plan, 0), "0 30 10 20");
    }

    /** Machine 1 decides the span; a set-up makes the first place on machine 0 start later than the second one. */
    private static void rushTakesTheLeastStartThen() {
        Boreplan plan = Shops.machines(2);
        plan.setSetup(0, 1, 10);
        int[] machines = {1, 0, 0, 0};
        int[] lengths = {100, 2, 3, 5};
        int[] families = {0, 2, 2, 1};
        for (int job = 0; job < 4; job++) {
            plan.addJob(0);
            plan.addOperation(job, machines[job], lengths[job], families[job], 0);
        }
        plan.place(0);
        plan.place(1);
        plan.place(2);
        Checks.due("rush(3)", plan.rush(3), 100);
        Checks.due("its row", Checks.row(plan, 0), "10 30 20");
        Checks.due("startOf(3, 0)", plan.startOf(3, 0), 2);
    }

    /** Machine 1 keeps the operation waiting and machine 2 decides the span: all places are as good. */
    private static void rushTakesTheFirstPlaceThen() {
        Boreplan plan = Shops.machines(3);
        int[] machines = {2, 0, 0, 1};
        int[] lengths = {100, 5, 3, 20};
        for (int job = 0; job < 4; job++) {
            plan.addJob(0);
            plan.addOperation(job, machines[job], lengths[job], 0, 0);
        }
        plan.addOperation(3, 0, 7, 0, 0);
        plan.place(0);
        plan.place(1);
        plan.place(2);
        Checks.due("rush(3)", plan.rush(3), 100);
        Checks.due("its row", Checks.row(plan, 0), "31 10 20");
        Checks.due("startOf(3, 1)", plan.startOf(3, 1), 20);
        Checks.due("startOf(1, 0)", plan.startOf(1, 0), 27);
    }

    private static void rushKeepsTheOrderOfAJob() {
        Boreplan plan = Shops.row(5);
        plan.addJob(0);
        plan.addOperation(1, 0, 3, 0, 0);
        plan.addOperation(1, 0, 2, 0, 0);
        Checks.due("rush(1)", plan.rush(1), 10);
        Checks.due("its row", Checks.row(plan, 0), "10 11 0");
    }

    /** The first operation goes where the span so far is least, though 45 could be reached by way of another place. */
    private static void rushLooksNoStepAhead() {
        Boreplan plan = Shops.machines(2);
        plan.addJob(0);
        plan.addOperation(0, 0, 10, 0, 0);
        plan.addOperation(0, 1, 10, 0, 0);
        plan.place(0);
        plan.addJob(0);
        plan.addOperation(1, 0, 5, 0, 0);
        plan.addOperation(1, 1, 30, 0, 0);
        Checks.due("rush(1)", plan.rush(1), 50);
        Checks.due("row 0", Checks.row(plan, 0), "0 10");
        Checks.due("row 1", Checks.row(plan, 1), "1 11");
    }

    private static void remove() {
        Boreplan plan = Shops.placed();
        Checks.due("remove(0)", plan.remove(0), 11);
        Checks.due("row 0", Checks.row(plan, 0), "11");
        Checks.due("row 1", Checks.row(plan, 1), "10");
        Checks.due("startOf(1, 0)", plan.startOf(1, 0), 0);
        Checks.due("remove(1)", plan.remove(1), 0);
        Checks.due("criticals()", plan.criticals(), 0);
        Checks.due("remove again", Checks.thrownBy(() -> plan.remove(1)), "IllegalStateException");
        Checks.due("place(0)", plan.place(0), 14);
        Boreplan twice = Shops.machines(1);
        for (int job = 0; job < 2; job++) {
            twice.addJob(0);
            twice.addOperation(job, 0, 3, 0, 0);
            twice.addOperation(job, 0, 4, 0, 0);
            twice.place(job);
        }
        twice.swap(0, 1);
        Checks.due("mixed", Checks.row(twice, 0), "0 10 1 11");
        Checks.due("remove(0)", twice.remove(0), 7);
        Checks.due("left over", Checks.row(twice, 0), "10 11");
    }

    private static void swap() {
        Boreplan plan = Shops.row(3, 4, 5);
        plan.setSetup(0, 0, 1);
        Checks.due("swap(0, 0)", plan.swap(0, 0), 15);
        Checks.due("its row", Checks.row(plan, 0), "10 0 20");
        Checks.due("startOf(0, 0)", plan.startOf(0, 0), 6);
        Checks.due("swap(0, 1)", plan.swap(0, 1), 15);
        Checks.due("its row", Checks.row(plan, 0), "10 20 0");
        Boreplan two = crossed();
        Checks.due("swap(0, 0)", two.swap(0, 0), 19);
        Checks.due("swap(1, 0) then", two.swap(1, 0), 25);
    }

    /** Job 0 goes from machine 0 to machine 1, job 1 the other way, and job 1 comes first on both. */
    private static Boreplan crossed() {
        Boreplan plan = Shops.waiting();
        plan.place(1);
        plan.place(0);
        return plan;
    }

    private static void placedAndPlacedAt() {
        Boreplan plan = Shops.placed();
        Checks.due("placed(0)", plan.placed(0), 2);
        Checks.due("placedAt(0, 0)", plan.placedAt(0, 0), 0);
        Checks.due("placedAt(0, 1)", plan.placedAt(0, 1), 11);
        Checks.due("placedAt(1, 0)", plan.placedAt(1, 0), 1);
        Checks.due("placedAt(1, 1)", plan.placedAt(1, 1), 10);
        fullMachine();
    }

    private static void fullMachine() {
        Boreplan plan = Shops.machines(1);
        for (int job = 0; job < 8; job++) {
            plan.addJob(0);
            for (int i = 0; i < 4; i++) {
                plan.addOperation(job, 0, 200, i, 1 << job);
            }
            Checks.due("rush(" + job + ")", plan.rush(job), 800 * (job + 1));
        }
        Checks.due("placed(0)", plan.placed(0), 32);
        Checks.due("placedAt(0, 0)", plan.placedAt(0, 0), 70);
        Checks.due("placedAt(0, 31)", plan.placedAt(0, 31), 3);
        Checks.due("span()", plan.span(), 6400);
        Checks.due("criticals()", plan.criticals(), 32);
        Checks.due("startByRounds(0, 3)", plan.startByRounds(0, 3), 6200);
    }
}
