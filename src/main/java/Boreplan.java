import java.util.ArrayList;

/** A scheduler of a machine shop: jobs are rows of operations on machines, and times follow from the order. */
public final class Boreplan {
    /** There is none. */
    public static final int NONE = -1;

    private static final int MOST_MACHINES = 4;
    private static final int MOST_JOBS = 8;
    private static final int MOST_OPERATIONS_OF_A_JOB = 4;
    private static final int MOST_PLACED = MOST_JOBS * MOST_OPERATIONS_OF_A_JOB;
    private static final int FAMILIES = 4;
    private static final int FIRST_FAMILY = 0;
    private static final int FIRST_CAPACITY = 4;
    private static final int MOST_CAPACITY = 8;
    private static final int ALL_TOOLS = 255;
    private static final int MOST_LENGTH = 200;
    private static final int MOST_SETUP = 60;
    private static final int LAST_MINUTE = 10000;
    /** Later than any operation can start or finish. */
    private static final int NEVER = 1000000;

    private final Shop shop;

    public Boreplan() {
        shop = new Shop();
    }

    // ---- machines, jobs, set-ups

    public int addMachine() throws IllegalStateException {
        if (shop.machines.size() >= MOST_MACHINES) {
            throw new IllegalStateException("there are 4 machines");
        }
        shop.machines.add(new Machine());
        return shop.machines.size() - 1;
    }

    public int setMagazine(int machine, int capacity)
            throws IndexOutOfBoundsException, IllegalArgumentException, IllegalStateException {
        Machine known = knownMachine(machine);
        if (capacity < 1 || capacity > MOST_CAPACITY) {
            throw new IllegalArgumentException("capacity is out of range");
        }
        if (capacity < known.mostToolsNeeded) {
            throw new IllegalStateException("an operation needs more tools");
        }
        int before = known.capacity;
        known.capacity = capacity;
        return before;
    }

    public int breakdown(int machine, int from, int to) throws IndexOutOfBoundsException, IllegalArgumentException {
        Machine known = knownMachine(machine);
        if (from < 0 || from >= LAST_MINUTE) {
            throw new IllegalArgumentException("from is out of range");
        }
        if (to <= from || to > LAST_MINUTE) {
            throw new IllegalArgumentException("to is out of range");
        }
        known.broken = true;
        known.brokenFrom = from;
        known.brokenTo = to;
        shop.timeAll();
        return shop.span;
    }

    public boolean repair(int machine) throws IndexOutOfBoundsException {
        Machine known = knownMachine(machine);
        boolean before = known.broken;
        known.broken = false;
        shop.timeAll();
        return before;
    }

    public int addJob(int due) throws IllegalArgumentException, IllegalStateException {
        if (due < 0 || due > LAST_MINUTE) {
            throw new IllegalArgumentException("due is out of range");
        }
        if (shop.jobs.size() >= MOST_JOBS) {
            throw new IllegalStateException("there are 8 jobs");
        }
        shop.jobs.add(new Job(shop.jobs.size(), due));
        return shop.jobs.size() - 1;
    }

    public int addOperation(int job, int machine, int length, int family, int tools)
            throws IndexOutOfBoundsException, IllegalArgumentException, IllegalStateException {
        Job knownJob = knownJob(job);
        Machine knownMachine = knownMachine(machine);
        if (length < 1 || length > MOST_LENGTH) {
            throw new IllegalArgumentException("length is out of range");
        }
        if (family < 0 || family >= FAMILIES) {
            throw new IllegalArgumentException("family is out of range");
        }
        if (tools < 0 || tools > ALL_TOOLS) {
            throw new IllegalArgumentException("tools is out of range");
        }
        if (knownJob.operations.size() >= MOST_OPERATIONS_OF_A_JOB) {
            throw new IllegalStateException("the job has 4 operations");
        }
        if (knownJob.isPlaced) {
            throw new IllegalStateException("the job is placed");
        }
        if (Integer.bitCount(tools) > knownMachine.capacity) {
            throw new IllegalStateException("the magazine is too small for the tools");
        }
        return knownJob.append(knownMachine, length, family, tools);
    }

    public int setSetup(int family, int other, int minutes)
            throws IndexOutOfBoundsException, IllegalArgumentException {
        if (family < 0 || family >= FAMILIES || other < 0 || other >= FAMILIES) {
            throw new IndexOutOfBoundsException("no such family");
        }
        if (minutes < 0 || minutes > MOST_SETUP) {
            throw new IllegalArgumentException("minutes is out of range");
        }
        int before = shop.table.minutes[family][other];
        shop.table.minutes[family][other] = minutes;
        shop.timeAll();
        return before;
    }

    // ---- placing

    public int place(int job) throws IndexOutOfBoundsException, IllegalStateException {
        Job waiting = waitingJob(job);
        for (int i = 0; i < waiting.operations.size(); i++) {
            Operation operation = waiting.operations.get(i);
            operation.machine.insert(operation, operation.machine.row.size());
        }
        waiting.isPlaced = true;
        shop.timeAll();
        return shop.span;
    }

    public int rush(int job) throws IndexOutOfBoundsException, IllegalStateException {
        Job waiting = waitingJob(job);
        for (int i = 0; i < waiting.operations.size(); i++) {
            shop.insertAtBestPlace(waiting.operations.get(i));
        }
        waiting.isPlaced = true;
        shop.timeAll();
        return shop.span;
    }

    public int remove(int job) throws IndexOutOfBoundsException, IllegalStateException {
        Job placedJob = placedJob(job);
        for (int i = 0; i < shop.machines.size(); i++) {
            shop.machines.get(i).takeOutAllOf(placedJob);
        }
        placedJob.isPlaced = false;
        shop.timeAll();
        return shop.span;
    }

    public int swap(int machine, int place) throws IndexOutOfBoundsException, IllegalStateException {
        Machine known = knownMachine(machine);
        if (place < 0 || place >= known.row.size() - 1) {
            throw new IndexOutOfBoundsException("no such place or none behind it");
        }
        known.exchange(place);
        if (!shop.timeAll()) {
            known.exchange(place);
            shop.timeAll();
            throw new IllegalStateException("the order would have a way round");
        }
        return shop.span;
    }

    public int placed(int machine) throws IndexOutOfBoundsException {
        return knownMachine(machine).row.size();
    }

    public int placedAt(int machine, int place) throws IndexOutOfBoundsException {
        Machine known = knownMachine(machine);
        if (place < 0 || place >= known.row.size()) {
            throw new IndexOutOfBoundsException("no such place");
        }
        return known.row.get(place).code();
    }

    // ---- times

    public int startOf(int job, int operation) throws IndexOutOfBoundsException, IllegalStateException {
        return placedOperation(job, operation).start;
    }

    public int startByRounds(int job, int operation) throws IndexOutOfBoundsException, IllegalStateException {
        Operation known = placedOperation(job, operation);
        shop.putLaterInRounds();
        return known.startInRounds;
    }

    public int lateness(int job) throws IndexOutOfBoundsException, IllegalStateException {
        Job placedJob = placedJob(job);
        int late = 0;
        // the last operation of a job finishes behind all others of it
        for (int i = 0; i < placedJob.operations.size(); i++) {
            late = Math.max(late, placedJob.operations.get(i).finish - placedJob.due);
        }
        return late;
    }

    public int span() {
        return shop.span;
    }

    public int slack(int job, int operation) throws IndexOutOfBoundsException, IllegalStateException {
        Operation known = placedOperation(job, operation);
        shop.findLatestStarts();
        return known.latestStart - known.start;
    }

    public int criticals() {
        shop.findPath();
        return shop.path.size();
    }

    public int criticalAt(int place) throws IndexOutOfBoundsException {
        shop.findPath();
        if (place < 0 || place >= shop.path.size()) {
            throw new IndexOutOfBoundsException("no such place");
        }
        return shop.path.get(shop.path.size() - 1 - place).code();
    }

    public int setups(int machine) throws IndexOutOfBoundsException {
        return shop.table.sumOf(knownMachine(machine));
    }

    public int loads(int machine) throws IndexOutOfBoundsException {
        return knownMachine(machine).leastLoads();
    }

    // ---- what the calls share

    private Machine knownMachine(int machine) {
        if (machine < 0 || machine >= shop.machines.size()) {
            throw new IndexOutOfBoundsException("no such machine");
        }
        return shop.machines.get(machine);
    }

    private Job knownJob(int job) {
        if (job < 0 || job >= shop.jobs.size()) {
            throw new IndexOutOfBoundsException("no such job");
        }
        return shop.jobs.get(job);
    }

    private Job placedJob(int job) {
        Job known = knownJob(job);
        if (!known.isPlaced) {
            throw new IllegalStateException("the job is not placed");
        }
        return known;
    }

    /** The job, if it may be placed. */
    private Job waitingJob(int job) {
        Job known = knownJob(job);
        if (known.isPlaced) {
            throw new IllegalStateException("the job is placed");
        }
        if (known.operations.isEmpty()) {
            throw new IllegalStateException("the job has no operations");
        }
        return known;
    }

    private Operation placedOperation(int job, int operation) {
        Job known = knownJob(job);
        if (operation < 0 || operation >= known.operations.size()) {
            throw new IndexOutOfBoundsException("no such operation");
        }
        if (!known.isPlaced) {
            throw new IllegalStateException("the job is not placed");
        }
        return known.operations.get(operation);
    }

    /** A step of a job. It knows the ones next to it in its job and on its machine, null where there is none. */
    private static final class Operation {
        final Job job;
        final int number;
        final Machine machine;
        final int length;
        final int family;
        final int tools;
        Operation aheadInJob;
        Operation behindInJob;
        Operation aheadOnMachine;
        Operation behindOnMachine;
        int start;
        int finish;
        int startInRounds;
        int latestStart;

        Operation(Job job, int number, Machine machine, int length, int family, int tools) {
            this.job = job;
            this.number = number;
            this.machine = machine;
            this.length = length;
            this.family = family;
            this.tools = tools;
        }

        int code() {
            return 10 * job.number + number;
        }
    }

    /** A row of operations with a due minute. */
    private static final class Job {
        final int number;
        final int due;
        final ArrayList<Operation> operations;
        boolean isPlaced;
        /** How many of its operations have got their times, while times are being given. */
        int timed;

        Job(int number, int due) {
            this.number = number;
            this.due = due;
            operations = new ArrayList<Operation>();
        }

        /** Answers the number of the new operation. */
        int append(Machine machine, int length, int family, int tools) {
            int next = operations.size();
            Operation added = new Operation(this, next, machine, length, family, tools);
            if (next > 0) {
                Operation ahead = operations.get(next - 1);
                added.aheadInJob = ahead;
                ahead.behindInJob = added;
            }
            operations.add(added);
            machine.mostToolsNeeded = Math.max(machine.mostToolsNeeded, Integer.bitCount(tools));
            return next;
        }
    }

    /** A row of placed operations, a magazine for tools and perhaps a breakdown. */
    private static final class Machine {
        final ArrayList<Operation> row;
        int capacity;
        /** By any operation of any job, placed or not: operations are never taken back. */
        int mostToolsNeeded;
        boolean broken;
        int brokenFrom;
        int brokenTo;
        /** How many operations of the row have got their times, while times are being given. */
        int timed;

        Machine() {
            row = new ArrayList<Operation>();
            capacity = FIRST_CAPACITY;
        }

        /** The place is one of the row or the one behind its last one. */
        void insert(Operation operation, int place) {
            row.add(place, operation);
            link();
        }

        void takeOut(int place) {
            row.remove(place);
            link();
        }

        void takeOutAllOf(Job job) {
            for (int place = row.size() - 1; place >= 0; place--) {
                if (row.get(place).job == job) {
                    row.remove(place);
                }
            }
            link();
        }

        /** The place is one of the row that has another one behind it. */
        void exchange(int place) {
            Operation first = row.get(place);
            row.set(place, row.get(place + 1));
            row.set(place + 1, first);
            link();
        }

        private void link() {
            Operation ahead = null;
            for (int place = 0; place < row.size(); place++) {
                Operation here = row.get(place);
                here.aheadOnMachine = ahead;
                here.behindOnMachine = null;
                if (ahead != null) {
                    ahead.behindOnMachine = here;
                }
                ahead = here;
            }
        }

        private boolean isBrokenDuring(int start, int length) {
            return broken && start < brokenTo && start + length > brokenFrom;
        }

        int leastStart(int ready, int length) {
            return isBrokenDuring(ready, length) ? brokenTo : ready;
        }

        int greatestStart(int latest, int length) {
            return isBrokenDuring(latest, length) ? brokenFrom - length : latest;
        }

        /** The least loads come of taking out, only when there is no room, the tool that is needed again last. */
        int leastLoads() {
            int inside = 0;
            int puttings = 0;
            for (int place = 0; place < row.size(); place++) {
                int needed = row.get(place).tools;
                puttings += Integer.bitCount(needed & ~inside);
                inside |= needed;
                for (int excess = Integer.bitCount(inside) - capacity; excess > 0; excess--) {
                    inside &= ~neededLast(inside & ~needed, place + 1);
                }
            }
            return puttings;
        }

        /** Of these tools the one that no operation needs for longest, from a place of the row on. */
        private int neededLast(int tools, int from) {
            int left = tools;
            for (int place = from; place < row.size(); place++) {
                int later = left & ~row.get(place).tools;
                if (later == 0) {
                    break;
                }
                left = later;
            }
            return left & -left;
        }
    }

    /** The minutes from each family to each family. */
    private static final class Setups {
        final int[][] minutes;

        Setups() {
            minutes = new int[FAMILIES][FAMILIES];
        }

        /** The set-up ahead of an operation, where null stands for a machine that has done nothing yet. */
        int between(Operation ahead, Operation operation) {
            int family = ahead == null ? FIRST_FAMILY : ahead.family;
            return minutes[family][operation.family];
        }

        int sumOf(Machine machine) {
            int sum = 0;
            for (int place = 0; place < machine.row.size(); place++) {
                Operation operation = machine.row.get(place);
                sum += between(operation.aheadOnMachine, operation);
            }
            return sum;
        }
    }

    /** The machines and jobs, and the times that follow from the rows of the machines. */
    private static final class Shop {
        final ArrayList<Machine> machines;
        final ArrayList<Job> jobs;
        final Setups table;
        /** All placed operations, each behind those that it waits for. */
        final ArrayList<Operation> order;
        /** The critical path, its last operation first. */
        final ArrayList<Operation> path;
        int span;

        Shop() {
            machines = new ArrayList<Machine>();
            jobs = new ArrayList<Job>();
            table = new Setups();
            order = new ArrayList<Operation>();
            path = new ArrayList<Operation>();
        }

        /** Leaves the times of the last trial behind: the caller times anew. */
        void insertAtBestPlace(Operation operation) {
            Machine machine = operation.machine;
            int last = machine.row.size();
            // nothing of its job is placed behind it yet, so that the last place never makes a way round
            int best = last;
            int leastSpan = NEVER;
            int leastStart = NEVER;
            for (int place = 0; place <= last; place++) {
                machine.insert(operation, place);
                if (timeAll() && (span < leastSpan || span == leastSpan && operation.start < leastStart)) {
                    best = place;
                    leastSpan = span;
                    leastStart = operation.start;
                }
                machine.takeOut(place);
            }
            machine.insert(operation, best);
        }

        /** Gives one operation after the other its times; false if the order has a way round. */
        boolean timeAll() {
            int placed = begin();
            for (int round = 0; round < MOST_PLACED && order.size() < placed; round++) {
                int before = order.size();
                for (int i = 0; i < machines.size(); i++) {
                    timeRow(machines.get(i));
                }
                if (order.size() == before) {
                    return false;
                }
            }
            return order.size() == placed;
        }

        /** Answers how many operations are placed on all machines together. */
        private int begin() {
            span = 0;
            order.clear();
            for (int i = 0; i < jobs.size(); i++) {
                jobs.get(i).timed = 0;
            }
            int placed = 0;
            for (int i = 0; i < machines.size(); i++) {
                machines.get(i).timed = 0;
                placed += machines.get(i).row.size();
            }
            return placed;
        }

        /** Goes on with a machine until one of its operations waits for another one of its job. */
        private void timeRow(Machine machine) {
            for (int place = machine.timed; place < machine.row.size(); place++) {
                Operation next = machine.row.get(place);
                if (next.number != next.job.timed) {
                    return;
                }
                timeOne(next);
                next.job.timed++;
                machine.timed++;
            }
        }

        private void timeOne(Operation operation) {
            Operation inJob = operation.aheadInJob;
            Operation onMachine = operation.aheadOnMachine;
            int free = onMachine == null ? 0 : onMachine.finish;
            int ready = free + table.between(onMachine, operation);
            if (inJob != null) {
                ready = Math.max(ready, inJob.finish);
            }
            operation.start = operation.machine.leastStart(ready, operation.length);
            operation.finish = operation.start + operation.length;
            span = Math.max(span, operation.finish);
            order.add(operation);
        }

        /** Each round settles at least one more operation, and the last one finds nothing to do. */
        void putLaterInRounds() {
            for (int i = 0; i < order.size(); i++) {
                order.get(i).startInRounds = 0;
            }
            boolean moved = true;
            for (int round = 0; moved && round <= MOST_PLACED; round++) {
                moved = false;
                for (int i = 0; i < machines.size(); i++) {
                    if (putRowLater(machines.get(i))) {
                        moved = true;
                    }
                }
            }
        }

        private boolean putRowLater(Machine machine) {
            boolean moved = false;
            for (int place = 0; place < machine.row.size(); place++) {
                Operation operation = machine.row.get(place);
                int start = machine.leastStart(readyInRounds(operation), operation.length);
                if (start > operation.startInRounds) {
                    operation.startInRounds = start;
                    moved = true;
                }
            }
            return moved;
        }

        private int readyInRounds(Operation operation) {
            Operation inJob = operation.aheadInJob;
            Operation onMachine = operation.aheadOnMachine;
            int free = onMachine == null ? 0 : onMachine.startInRounds + onMachine.length;
            int ready = free + table.between(onMachine, operation);
            return inJob == null ? ready : Math.max(ready, inJob.startInRounds + inJob.length);
        }

        void findLatestStarts() {
            for (int i = order.size() - 1; i >= 0; i--) {
                Operation operation = order.get(i);
                int latest = latestFinish(operation) - operation.length;
                operation.latestStart = operation.machine.greatestStart(latest, operation.length);
            }
        }

        private int latestFinish(Operation operation) {
            Operation inJob = operation.behindInJob;
            Operation onMachine = operation.behindOnMachine;
            int latest = span;
            if (inJob != null) {
                latest = Math.min(latest, inJob.latestStart);
            }
            if (onMachine != null) {
                latest = Math.min(latest, onMachine.latestStart - table.between(operation, onMachine));
            }
            return latest;
        }

        void findPath() {
            path.clear();
            Operation next = lastOfPath();
            for (int i = 0; i < MOST_PLACED && next != null; i++) {
                path.add(next);
                next = aheadOnPath(next);
            }
        }

        private Operation lastOfPath() {
            for (int i = 0; i < jobs.size(); i++) {
                Job job = jobs.get(i);
                for (int k = 0; job.isPlaced && k < job.operations.size(); k++) {
                    if (job.operations.get(k).finish == span) {
                        return job.operations.get(k);
                    }
                }
            }
            return null;
        }

        private Operation aheadOnPath(Operation operation) {
            Operation inJob = operation.aheadInJob;
            Operation onMachine = operation.aheadOnMachine;
            if (inJob != null && inJob.finish == operation.start) {
                return inJob;
            }
            if (onMachine != null && onMachine.finish + table.between(onMachine, operation) == operation.start) {
                return onMachine;
            }
            return null;
        }
    }
}
