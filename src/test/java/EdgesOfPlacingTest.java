/** The boundaries that the document names: of ways round (under 'Terms') and in promises 9 to 14. */
public final class EdgesOfPlacingTest {
    public static void main(String[] args) {
        wayRoundInOneJob();
        wayRoundOverTwoMachines();
        wayRoundOverMoreMachines();
        placeComesLast();
        placeOfNoJob();
        placeOnlyIfWaiting();
        placeOnlyWithOperations();
        rushWithoutAWayRound();
        rushBySpan();
        rushByItsOwnStart();
        rushBySpanAheadOfItsStart();
        rushToTheFirstPlace();
        rushAtTheEnds();
        rushOfNoJob();
        rushOnlyIfWaiting();
        rushOnlyWithOperations();
        removeFromAllMachines();
        spanWithoutAJob();
        removeOfNoJob();
        removeOnlyIfPlaced();
        swapOnNoMachine();
        swapFromPlaceZero();
        swapOfNoPlace();
        swapOnlyWithoutAWayRound();
        placedFromZeroTo32();
        placedOfNoMachine();
        placedAtFromPlaceZero();
        placedAtTenTimesTheJob();
        placedAtNoMachine();
        placedAtNoPlace();
        Checks.end();
    }

    /** A job on the machine 0 with so many operations, and jobs of one operation next to it; all placed. */
    private static Boreplan oneMachine(int operations, int others) {
        Boreplan plan = Shops.jobs(1, 1);
        for (int i = 0; i < operations; i++) {
            plan.addOperation(0, 0, 2, 0, 0);
        }
        plan.place(0);
        for (int i = 0; i < others; i++) {
            Shops.single(plan, 0, 3, 0);
        }
        return plan;
    }

    /** Times: "by it some operation would have to come ahead of itself", by its job alone. */
    private static void wayRoundInOneJob() {
        Checks.refused("two of one job", Edges.STATE, () -> oneMachine(2, 0), p -> p.swap(0, 0));
        Checks.refused("the first two of four", Edges.STATE, () -> oneMachine(4, 1), p -> p.swap(0, 0));
        Checks.refused("the last two of four", Edges.STATE, () -> oneMachine(4, 1), p -> p.swap(0, 2));
        Boreplan plan = oneMachine(2, 1);
        Checks.due("the last one of a job and another job", plan.swap(0, 1), 7);
        Checks.due("the row then", Checks.row(plan, 0), "0 10 1");
        Checks.due("the first one of a job and another job", plan.swap(0, 0), 7);
        Checks.due("the row then", Checks.row(plan, 0), "10 0 1");
    }

    /** Times: the same sentence, by two machines: only when both rows are turned no operation comes ahead of itself. */
    private static void wayRoundOverTwoMachines() {
        Checks.due("the row 0", Checks.row(Shops.ring(2), 0), "0 11");
        Checks.due("the row 1", Checks.row(Shops.ring(2), 1), "1 10");
        Checks.refused("job 1 ahead on machine 0", Edges.STATE, () -> Shops.ring(2), p -> p.swap(0, 0));
        Boreplan plan = Shops.ring(2);
        Checks.due("job 1 ahead on machine 1", plan.swap(1, 0), 9);
        Checks.due("job 1 ahead on machine 0 too", plan.swap(0, 0), 18);
        String answer = Checks.thrownBy(() -> plan.swap(1, 0));
        Checks.due("job 0 ahead on machine 1 then", answer, "IllegalStateException");
    }

    /** Times: the same sentence, by three and four machines: one row less turned makes no way round. */
    private static void wayRoundOverMoreMachines() {
        for (int count = 3; count <= 4; count++) {
            int machines = count;
            Checks.refused("the last job ahead on machine 0", Edges.STATE, () -> Shops.ring(machines),
                    p -> p.swap(0, 0));
            for (int machine = 1; machine < machines; machine++) {
                Boreplan plan = Shops.ring(machines);
                int turned = machine;
                Checks.due("turned on " + turned, Checks.thrownBy(() -> plan.swap(turned, 0)), "nothing");
                Checks.due("and on 0", Checks.thrownBy(() -> plan.swap(0, 0)), "nothing");
            }
        }
    }

    /** Promise 9: "Places a job: its operations come last on their machines, in their order." */
    private static void placeComesLast() {
        Boreplan plan = oneMachine(3, 0);
        Checks.due("on an empty machine", Checks.row(plan, 0), "0 1 2");
        plan.addJob(0);
        plan.addOperation(1, 0, 1, 0, 0);
        plan.addOperation(1, 0, 1, 0, 0);
        Checks.due("place returns the span then", plan.place(1), 8);
        Checks.due("behind all others", Checks.row(plan, 0), "0 1 2 10 11");
        plan.remove(0);
        Checks.due("place returns the span again", plan.place(0), 8);
        Checks.due("behind all others again", Checks.row(plan, 0), "10 11 0 1 2");
    }

    /** Promise 9: "Throws `IndexOutOfBoundsException` if there is no such job" */
    private static void placeOfNoJob() {
        Edges.jobNumbers("place", jobs -> Shops.grid(2, jobs), (p, j) -> p.place(j));
    }

    /** Promise 9: "Throws `IllegalStateException` if it is placed" */
    private static void placeOnlyIfWaiting() {
        Edges.onlyIfWaiting("place", p -> p.place(1));
    }

    /** Promise 9: "Throws `IllegalStateException` if it ... has no operations" */
    private static void placeOnlyWithOperations() {
        Checks.refused("none", Edges.STATE, () -> Shops.jobs(1, 1), p -> p.place(0));
        Boreplan plan = Shops.jobs(1, 1);
        plan.addOperation(0, 0, 1, 0, 0);
        Checks.due("one", plan.place(0), 1);
    }

    /**
     * Promise 10: "each at that place of the row of its machine where the order has no way round": the second
     * operation of the job can not come ahead of the first one, nor on machine 0 ahead of what the first one waits for.
     */
    private static void rushWithoutAWayRound() {
        Boreplan same = Shops.row(5);
        same.addJob(0);
        for (int i = 0; i < 4; i++) {
            same.addOperation(1, 0, 3, 0, 0);
        }
        Checks.due("rush(1)", same.rush(1), 17);
        Checks.due("each at the first place behind the one before", Checks.row(same, 0), "10 11 12 13 0");
        Boreplan two = Shops.jobs(2, 2);
        two.setSetup(1, 0, 60);
        two.addOperation(0, 0, 30, 0, 0);
        two.addOperation(0, 1, 5, 0, 0);
        two.place(0);
        two.addOperation(1, 1, 9, 1, 0);
        two.addOperation(1, 0, 9, 0, 0);
        Checks.due("over two machines", two.rush(1), 53);
        Checks.due("the set-up of 60 keeps it behind", Checks.row(two, 1), "1 10");
        Checks.due("the only place without a way round", Checks.row(two, 0), "0 11");
    }

    /** An operation of family 0 is placed, one of family 1 is rushed: ahead it starts at 3, behind at 8. */
    private static String rushedRow(int minutesFromOneToZero) {
        Boreplan plan = Shops.machines(1);
        plan.setSetup(0, 1, 3);
        plan.setSetup(1, 0, minutesFromOneToZero);
        Shops.single(plan, 0, 5, 0);
        plan.addJob(0);
        plan.addOperation(1, 0, 5, 1, 0);
        Checks.due("rush(1)", plan.rush(1), 13);
        return Checks.row(plan, 0);
    }

    /** Promise 10: "and the span of all operations placed so far is least" */
    private static void rushBySpan() {
        Checks.due("as long: by its own start", rushedRow(0), "10 0");
        Checks.due("a minute longer ahead", rushedRow(1), "0 10");
    }

    /** Promise 10: "of several such where its own start is least": ahead it starts at the set-up, behind at 5. */
    private static void rushByItsOwnStart() {
        for (int minutes = 4; minutes <= 6; minutes++) {
            Boreplan plan = Shops.machines(2);
            plan.setSetup(0, 1, minutes);
            Shops.single(plan, 1, 100, 0);
            Shops.single(plan, 0, 5, 2);
            plan.addJob(0);
            plan.addOperation(2, 0, 5, 1, 0);
            Checks.due("the span is the same", plan.rush(2), 100);
            Checks.due("the start with " + minutes, plan.startOf(2, 0), Math.min(minutes, 5));
            Checks.due("the row with " + minutes, Checks.row(plan, 0), minutes <= 5 ? "20 10" : "10 20");
        }
    }

    /**
     * Promise 10: "of several such" are those of the least span, however soon it starts elsewhere: at the first place it
     * starts at 6 and the span is 19, at the second one it starts at 5 and the span is 18, 19 or 20.
     */
    private static void rushBySpanAheadOfItsStart() {
        String[] rows = {"0 20 10", "0 20 10", "20 0 10"};
        for (int minutes = 5; minutes <= 7; minutes++) {
            Boreplan plan = Shops.machines(1);
            plan.setSetup(0, 1, 6);
            plan.setSetup(1, 3, minutes);
            plan.setSetup(3, 1, 60);
            Shops.single(plan, 0, 5, 2);
            Shops.single(plan, 0, 3, 3);
            plan.addJob(0);
            plan.addOperation(2, 0, 5, 1, 0);
            Checks.due("rush(2) with " + minutes, plan.rush(2), Math.min(19, 13 + minutes));
            Checks.due("the row with " + minutes, Checks.row(plan, 0), rows[minutes - 5]);
        }
    }

    /**
     * The row of machine 0 behind a rush of an operation whose job is ready for it in a minute, and for which an
     * empty machine is set up in so many minutes; 10 and 20, without it, run to 5 and 8.
     */
    private static String readyRow(int ready, int minutes) {
        Boreplan plan = Shops.machines(3);
        plan.setSetup(0, 1, minutes);
        Shops.single(plan, 2, 100, 0);
        Shops.single(plan, 0, 5, 2);
        Shops.single(plan, 0, 3, 2);
        plan.addJob(0);
        plan.addOperation(3, 1, ready, 0, 0);
        plan.addOperation(3, 0, 7, 1, 0);
        Checks.due("rush(3)", plan.rush(3), 100);
        return Checks.row(plan, 0);
    }

    /** Promise 10: "of several the first place" */
    private static void rushToTheFirstPlace() {
        Checks.due("all starts are 8", readyRow(8, 0), "31 10 20");
        Checks.due("all starts are 8, as the set-up", readyRow(8, 8), "31 10 20");
        Checks.due("the starts are 9, 8 and 8", readyRow(8, 9), "10 31 20");
        Checks.due("the starts are 5, 5 and 8", readyRow(5, 5), "31 10 20");
        Checks.due("the starts are 10, 9 and 9", readyRow(9, 10), "10 31 20");
    }

    /** Promise 10: "each at that place of the row of its machine", the only one, the first and the last one too. */
    private static void rushAtTheEnds() {
        Boreplan plan = Shops.grid(4, 1);
        Checks.due("on empty machines as place", plan.rush(0), Shops.placedGrid(4, 1).span());
        Checks.due("the only place", Checks.row(plan, 0), "0");
        Boreplan full = oneMachine(4, 6);
        full.setSetup(0, 0, 1);
        full.setSetup(1, 0, 1);
        full.addJob(0);
        full.addOperation(7, 0, 5, 1, 0);
        Checks.due("the set-up of 0 is saved at the first place", full.rush(7), 41);
        Checks.due("the first place", full.placedAt(0, 0), 70);
        full.remove(7);
        full.setSetup(1, 0, 2);
        Checks.due("the set-up of 2 is saved at the last place", full.rush(7), 41);
        Checks.due("the last place", full.placedAt(0, 10), 70);
    }

    /** Promise 10: "Throws `IndexOutOfBoundsException` if there is no such job" */
    private static void rushOfNoJob() {
        Edges.jobNumbers("rush", jobs -> Shops.grid(2, jobs), (p, j) -> p.rush(j));
    }

    /** Promise 10: "Throws `IllegalStateException` if it is placed" */
    private static void rushOnlyIfWaiting() {
        Edges.onlyIfWaiting("rush", p -> p.rush(1));
    }

    /** Promise 10: "Throws `IllegalStateException` if it ... has no operations" */
    private static void rushOnlyWithOperations() {
        Checks.refused("none", Edges.STATE, () -> Shops.jobs(1, 1), p -> p.rush(0));
        Boreplan plan = Shops.jobs(1, 1);
        plan.addOperation(0, 0, 1, 0, 0);
        Checks.due("one", plan.rush(0), 1);
    }

    /** Promise 11: "Takes a job off all machines." */
    private static void removeFromAllMachines() {
        Boreplan plan = Shops.placedGrid(4, 2);
        plan.remove(0);
        for (int machine = 0; machine < 4; machine++) {
            Checks.due("left on " + machine, Checks.row(plan, machine), "" + (10 + machine));
        }
        Boreplan same = oneMachine(4, 1);
        same.remove(0);
        Checks.due("all four of one machine", Checks.row(same, 0), "10");
        same.remove(1);
        Checks.due("the last one of all", same.placed(0), 0);
    }

    /** Promise 11: "Returns the span then.", down to that of no operations. */
    private static void spanWithoutAJob() {
        Boreplan plan = Shops.row(5, 4, 3);
        Checks.due("remove of the last one", plan.remove(2), 9);
        Checks.due("remove of the first one", plan.remove(0), 4);
        Checks.due("remove of the only one", plan.remove(1), 0);
    }

    /** Promise 11: "Throws `IndexOutOfBoundsException` if there is no such job" */
    private static void removeOfNoJob() {
        Edges.jobNumbers("remove", jobs -> Shops.placedGrid(2, jobs), (p, j) -> p.remove(j));
    }

    /** Promise 11: "Throws `IllegalStateException` if it is not placed" */
    private static void removeOnlyIfPlaced() {
        Edges.onlyIfPlaced("remove", p -> p.remove(1));
        Checks.refused("remove without operations", Edges.STATE, Shops::placed, p -> p.remove(2));
    }

    /** Promise 12: "Throws `IndexOutOfBoundsException` if there is no such machine" */
    private static void swapOnNoMachine() {
        Edges.machineNumbers("swap", (p, m) -> p.swap(m, 0));
    }

    /** Promise 12: "- `place`: from 0" */
    private static void swapFromPlaceZero() {
        Boreplan plan = Shops.row(5, 4, 3);
        plan.swap(0, 1);
        Checks.due("the last place that has one behind it", Checks.row(plan, 0), "0 20 10");
        plan.swap(0, 0);
        Checks.due("the place 0", Checks.row(plan, 0), "20 0 10");
        Checks.due("its start", plan.startOf(2, 0), 0);
        Checks.due("the place -1", Checks.thrownBy(() -> plan.swap(0, -1)), "IndexOutOfBoundsException");
    }

    /** Promise 12: "or the machine has no such place or none behind it" */
    private static void swapOfNoPlace() {
        int[] lengths = {9, 8, 7, 6, 5, 4, 3, 2};
        for (int count = 0; count <= 8; count++) {
            int[] some = java.util.Arrays.copyOf(lengths, count);
            Edges.range("place of " + count, 0, count - 2, Edges.INDEX, () -> Shops.row(some), (p, i) -> p.swap(0, i));
            int last = count - 1;
            Checks.refused("the last place of " + count + ", none behind it", Edges.INDEX, () -> Shops.row(some),
                    p -> p.swap(0, last));
            Checks.refused("no such place of " + count, Edges.INDEX, () -> Shops.row(some), p -> p.swap(0, last + 1));
        }
    }

    /** Promise 12: "Throws `IllegalStateException` if the order would have a way round" */
    private static void swapOnlyWithoutAWayRound() {
        Checks.refused("job 1 can not come ahead on machine 0", Edges.STATE, Shops::placed, p -> p.swap(0, 0));
        Edges.allowed("job 1 can come ahead on machine 1", Shops::placed, p -> p.swap(1, 0));
    }

    /** Promise 13: "Returns how many operations are placed on a machine.", from none to all of all jobs. */
    private static void placedFromZeroTo32() {
        for (int jobs = 0; jobs <= 8; jobs++) {
            Checks.due("placed(0) with jobs of four operations", Shops.chain(jobs).placed(0), 4 * jobs);
            Checks.due("the other machine", Shops.chain(jobs).placed(1), 0);
        }
        Boreplan plan = Shops.chain(8);
        plan.remove(7);
        Checks.due("one job less", plan.placed(0), 28);
    }

    /** Promise 13: "Throws `IndexOutOfBoundsException` if there is no such machine" */
    private static void placedOfNoMachine() {
        Edges.machineNumbers("placed", (p, m) -> p.placed(m));
    }

    /** Promise 14: "- `place`: from 0" */
    private static void placedAtFromPlaceZero() {
        Boreplan plan = Shops.row(5, 4, 3);
        for (int place = 0; place < 3; place++) {
            Checks.due("placedAt(0, " + place + ")", plan.placedAt(0, place), 10 * place);
        }
        for (int place : new int[] {-1, 3}) {
            Checks.due("the place " + place, Checks.thrownBy(() -> plan.placedAt(0, place)),
                    "IndexOutOfBoundsException");
        }
    }

    /** Promise 14: "Returns 10 times the job and the number of the operation, together.", from 0 to 73. */
    private static void placedAtTenTimesTheJob() {
        Boreplan plan = Shops.chain(8);
        for (int i = 0; i < 32; i++) {
            Checks.due("placedAt(0, " + i + ")", plan.placedAt(0, i), 10 * (i / 4) + i % 4);
        }
    }

    /** Promise 14: "Throws `IndexOutOfBoundsException` if there is no such machine" */
    private static void placedAtNoMachine() {
        Edges.machineNumbers("placedAt", (p, m) -> p.placedAt(m, 1));
    }

    /** Promise 14: "Throws `IndexOutOfBoundsException` if there is no such ... place" */
    private static void placedAtNoPlace() {
        for (int count = 0; count <= 8; count++) {
            int jobs = count;
            Edges.range("place of " + 4 * count, 0, 4 * count - 1, Edges.INDEX, () -> Shops.chain(jobs),
                    (p, i) -> p.placedAt(0, i));
        }
        Edges.range("place of another machine", 0, -1, Edges.INDEX, () -> Shops.chain(8), (p, i) -> p.placedAt(1, i));
    }
}
