/** The shops that several tests begin with. */
final class Shops {
    private Shops() {
    }

    /** So many machines and nothing else. */
    static Boreplan machines(int count) {
        Boreplan plan = new Boreplan();
        for (int i = 0; i < count; i++) {
            plan.addMachine();
        }
        return plan;
    }

    /** Two machines, three jobs and some set-ups; nothing is placed, and job 2 has no operations. */
    static Boreplan waiting() {
        Boreplan plan = machines(2);
        plan.setSetup(0, 1, 3);
        plan.setSetup(1, 0, 2);
        plan.setSetup(1, 2, 4);
        plan.addJob(20);
        plan.addOperation(0, 0, 5, 1, 3);
        plan.addOperation(0, 1, 6, 0, 1);
        plan.addJob(15);
        plan.addOperation(1, 1, 4, 0, 6);
        plan.addOperation(1, 0, 7, 2, 12);
        plan.addJob(0);
        return plan;
    }

    /** Job 0 runs 3-8 on machine 0 and 8-14 on machine 1; job 1 runs 14-18 on machine 1 and 18-25 on machine 0. */
    static Boreplan placed() {
        Boreplan plan = waiting();
        plan.place(0);
        plan.place(1);
        return plan;
    }

    /** One machine and, for each length, a placed job of one operation, of the family 0 and without tools. */
    static Boreplan row(int... lengths) {
        Boreplan plan = machines(1);
        for (int length : lengths) {
            int job = plan.addJob(0);
            plan.addOperation(job, 0, length, 0, 0);
            plan.place(job);
        }
        return plan;
    }

    /** Machines, and jobs without operations that are due at minute 0. */
    static Boreplan jobs(int machines, int jobs) {
        Boreplan plan = machines(machines);
        for (int i = 0; i < jobs; i++) {
            plan.addJob(0);
        }
        return plan;
    }

    /** One more job of one operation without tools, placed; answers the number of the job. */
    static int single(Boreplan plan, int machine, int length, int family) {
        int job = plan.addJob(0);
        plan.addOperation(job, machine, length, family, 0);
        plan.place(job);
        return job;
    }

    /** Waiting jobs, each with an operation on each machine, from the machine 0 on, and set-ups; no two quite alike. */
    static Boreplan grid(int machines, int jobs) {
        Boreplan plan = jobs(machines, jobs);
        for (int i = 0; i < 16; i++) {
            plan.setSetup(i / 4, i % 4, i / 4 == i % 4 ? 0 : 1 + i % 3);
        }
        for (int i = 0; i < machines * jobs; i++) {
            int job = i / machines;
            int machine = i % machines;
            plan.addOperation(job, machine, 1 + (3 * job + 2 * machine) % 7, (job + machine) % 4, 1 << job | 1);
        }
        return plan;
    }

    static Boreplan placedGrid(int machines, int jobs) {
        Boreplan plan = grid(machines, jobs);
        for (int job = 0; job < jobs && machines > 0; job++) {
            plan.place(job);
        }
        return plan;
    }

    /** Each job goes from the machine of its number to the next one, the last one to the machine 0; placed in order. */
    static Boreplan ring(int machines) {
        Boreplan plan = Shops.jobs(machines, machines);
        for (int job = 0; job < machines; job++) {
            plan.addOperation(job, job, 5, 0, 0);
            plan.addOperation(job, (job + 1) % machines, 4, 0, 0);
            plan.place(job);
        }
        return plan;
    }

    /** Two machines, and so many placed jobs of four operations of 2 minutes, all on machine 0. */
    static Boreplan chain(int jobs) {
        Boreplan plan = jobs(2, jobs);
        for (int i = 0; i < 4 * jobs; i++) {
            plan.addOperation(i / 4, 0, 2, 0, 0);
        }
        for (int job = 0; job < jobs; job++) {
            plan.place(job);
        }
        return plan;
    }
}
