/** The shops that several tests begin with. */
final class Shops {
    private Shops() {
    }

    /** So many machines and nothing else. */
    static Boreplan machines(int count) {
        Boreplan plan = new Boreplan();
        for (int i = 0; i < count; i++) {
            plan.addMachine();
        }
        return plan;
    }

    /** Two machines, three jobs and some set-ups; nothing is placed, and job 2 has no operations. */
    static Boreplan waiting() {
        Boreplan plan = machines(2);
        plan.setSetup(0, 1, 3);
        plan.setSetup(1, 0, 2);
        plan.setSetup(1, 2, 4);
        plan.addJob(20);
        plan.addOperation(0, 0, 5, 1, 3);
        plan.addOperation(0, 1, 6, 0, 1);
        plan.addJob(15);
        plan.addOperation(1, 1, 4, 0, 6);
        plan.addOperation(1, 0, 7, 2, 12);
        plan.addJob(0);
        return plan;
    }

    /** Job 0 runs 3-8 on machine 0 and 8-14 on machine 1; job 1 runs 14-18 on machine 1 and 18-25 on machine 0. */
    static Boreplan placed() {
        Boreplan plan = waiting();
        plan.place(0);
        plan.place(1);
        return plan;
    }

    /** One machine and, for each length, a placed job of one operation, of the family 0 and without tools. */
    static Boreplan row(int... lengths) {
        Boreplan plan = machines(1);
        for (int length : lengths) {
            int job = plan.addJob(0);
            plan.addOperation(job, 0, length, 0, 0);
            plan.place(job);
        }
        return plan;
    }
}
