import java.util.function.Consumer;
import java.util.function.IntFunction;
import java.util.function.ObjIntConsumer;
import java.util.function.Supplier;

/** What the tests of the document's boundaries share: the last value that is allowed, and the first one that is not. */
final class Edges {
    static final Class<?> INDEX = IndexOutOfBoundsException.class;
    static final Class<?> ARGUMENT = IllegalArgumentException.class;
    static final Class<?> STATE = IllegalStateException.class;

    private Edges() {
    }

    static void allowed(String call, Supplier<Boreplan> shop, Consumer<Boreplan> act) {
        Boreplan tried = shop.get();
        Checks.due(call, Checks.thrownBy(() -> act.accept(tried)), "nothing");
    }

    /** The least and the most are answered, the numbers next to them and far off refused; no number if most < least. */
    static void range(String call, int least, int most, Class<?> want, Supplier<Boreplan> shop,
            ObjIntConsumer<Boreplan> act) {
        if (least <= most) {
            allowed(call + " " + least, shop, p -> act.accept(p, least));
            allowed(call + " " + most, shop, p -> act.accept(p, most));
        }
        for (int number : new int[] {least - 1, most + 1, Integer.MIN_VALUE, Integer.MAX_VALUE}) {
            Checks.refused(call + " " + number, want, shop, p -> act.accept(p, number));
        }
    }

    /** Asked with every count of machines, where two jobs are placed on each machine. */
    static void machineNumbers(String call, ObjIntConsumer<Boreplan> act) {
        for (int count = 0; count <= 4; count++) {
            int machines = count;
            range(call + " of " + count, 0, count - 1, INDEX, () -> Shops.placedGrid(machines, 2), act);
        }
    }

    /** Asked with every count of jobs. */
    static void jobNumbers(String call, IntFunction<Boreplan> shopOfJobs, ObjIntConsumer<Boreplan> act) {
        for (int count = 0; count <= 8; count++) {
            int jobs = count;
            range(call + " of " + count, 0, count - 1, INDEX, () -> shopOfJobs.apply(jobs), act);
        }
    }

    /** Asked with every count of operations of the job 0, which is placed. */
    static void operationNumbers(String call, ObjIntConsumer<Boreplan> act) {
        for (int count = 1; count <= 4; count++) {
            int operations = count;
            range(call + " of " + count, 0, count - 1, INDEX, () -> Shops.placedGrid(operations, 2), act);
        }
    }

    /** The call is about the job 1, which is placed or rushed when it is answered, and waits when it is refused. */
    static void onlyIfPlaced(String call, Consumer<Boreplan> act) {
        allowed(call + " of a placed job", Shops::placed, act);
        allowed(call + " of a rushed job", Edges::rushed, act);
        Checks.refused(call + " of a waiting job", STATE, Shops::waiting, act);
        Checks.refused(call + " of a removed job", STATE, Edges::removed, act);
    }

    /** The call is about the job 1, which waits when it is answered, and is placed or rushed when it is refused. */
    static void onlyIfWaiting(String call, Consumer<Boreplan> act) {
        allowed(call + " of a waiting job", Shops::waiting, act);
        allowed(call + " of a removed job", Edges::removed, act);
        Checks.refused(call + " of a placed job", STATE, Shops::placed, act);
        Checks.refused(call + " of a rushed job", STATE, Edges::rushed, act);
    }

    private static Boreplan rushed() {
        Boreplan plan = Shops.waiting();
        plan.rush(1);
        return plan;
    }

    private static Boreplan removed() {
        Boreplan plan = Shops.placed();
        plan.remove(1);
        return plan;
    }
}
