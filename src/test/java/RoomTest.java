import com.sun.management.ThreadMXBean;
import java.lang.management.ManagementFactory;
import java.lang.reflect.Array;
import java.lang.reflect.Field;
import java.lang.reflect.Modifier;
import java.util.ArrayDeque;
import java.util.Collections;
import java.util.Deque;
import java.util.IdentityHashMap;
import java.util.List;
import java.util.Set;

/** All calls of a run live in one room: what an object takes of it, and that calls take nothing more. */
public final class RoomTest {
    private static final ThreadMXBean THREADS = (ThreadMXBean) ManagementFactory.getThreadMXBean();

    public static void main(String[] args) {
        Kit.run(RoomTest.class);
    }

    static void anObjectTakesFewObjectsAndElements() throws IllegalAccessException {
        long[] taken = taken(Kit.made(Kit::richWithTape));
        Kit.due("objects and arrays, " + taken[0] + ", are at most 60", taken[0] <= 60 ? 1 : 0, 1);
        Kit.due("fields and elements, " + taken[1] + ", are at most 8000", taken[1] <= 8000 ? 1 : 0, 1);
    }

    static void fiveHundredCallsDoNotMakeItTakeMore() throws IllegalAccessException {
        IdeaMousers x = new IdeaMousers();
        long[] first = taken(x);
        for (int round = 0; round < 5; round++) {
            Kit.rich(x);
            for (Kit.Ask call : CALLS) {
                Kit.outcome(x, call);
            }
        }
        long[] then = taken(x);
        Kit.due("objects", then[0], first[0]);
        Kit.due("elements", then[1], first[1]);
    }

    static void noCallMakesAnObject() {
        for (int i = 0; i < CALLS.size(); i++) {
            Kit.Ask call = CALLS.get(i);
            // The machine itself makes something when a call is met for the first time.
            bytesMadeBy(call, Kit.made(Kit::richWithTape));
            Kit.due("bytes made by call " + i, bytesMadeBy(call, Kit.made(Kit::richWithTape)), 0);
        }
    }

    static void noTextMakesAnObject() {
        textMakesNothing(Kit.HOUSE, (x, n) -> x.house(n));
        textMakesNothing("most[size, least[(grow + 2) * 3, hide % 7]] - cats / (night + mat)", (x, n) -> x.law(n));
        textMakesNothing("hide 0 1;call 1 3;feed 0 60;again 9[again 9[night;];];shut 0;join 2 0;", (x, n) -> x.work(n));
        textMakesNothing("0 1;1 0;2 1;", (x, n) -> x.book(n));
    }

    private interface Reading {
        int of(IdeaMousers x, int n);
    }

    private static void textMakesNothing(String text, Reading reading) {
        Kit.Change setup = x -> {
            Kit.house(x, Kit.HOUSE);
            Kit.put(x, text);
        };
        Kit.Ask call = x -> reading.of(x, text.length());
        Kit.due("<" + text + "> stands", call.of(Kit.made(setup)) >= 1 ? 1 : 0, 1);
        Kit.due("bytes made by <" + text + ">", bytesMadeBy(call, Kit.made(setup)), 0);
    }

    private static long bytesMadeBy(Kit.Ask call, IdeaMousers x) {
        long id = Thread.currentThread().getId();
        long before = THREADS.getThreadAllocatedBytes(id);
        long between = THREADS.getThreadAllocatedBytes(id);
        call.of(x);
        long after = THREADS.getThreadAllocatedBytes(id);
        return after - between - (between - before);
    }

    /** Each call of the face, none of them refused; on the tape stands "room 7;". */
    private static final List<Kit.Ask> CALLS = List.of(
        x -> x.feed(1, 2, 3, 4, 5), x -> x.house(7), x -> x.law(7), x -> x.law(0), x -> x.work(7),
        x -> x.work(0), x -> x.book(7), x -> x.book(0), x -> x.fault(), x -> x.undo(), x -> x.told(11),
        x -> x.room(0, 3), x -> x.way(0, 2), x -> x.scheme(0, 5), x -> x.cat(0, 3), x -> x.more(0),
        x -> x.would(1, 1, 1, 1, 1, 1, 1), x -> x.ahead(99, 1), x -> x.far(0, 3), x -> x.lasts(3),
        x -> x.slips(3, 0), x -> x.hunt(1), x -> x.prey(1), x -> x.sums(3, 12), x -> x.fits(0),
        x -> x.look(0), x -> x.uncle(5, 3, 2), x -> x.boat(12, 6, 5, 0), x -> x.crumbs(3, 15, 20),
        x -> x.greatest(1), x -> x.proudest(1), x -> x.safe(), x -> x.doomed(), x -> x.havens(5),
        x -> x.hungry(), x -> x.crowd(1), x -> x.grown(3, 99), x -> x.escapes(3), x -> x.weight(3),
        x -> x.season(7, 96, 8, 1), x -> x.span(7, 20, 96, 8, 1, 3), x -> x.image(), x -> x.restore(),
        x -> x.status(0), x -> x.count(1));

    /** How many objects and arrays can be come to from one, and how many fields and elements they have. */
    private static long[] taken(IdeaMousers x) throws IllegalAccessException {
        Set<Object> met = Collections.newSetFromMap(new IdentityHashMap<>());
        Deque<Object> open = new ArrayDeque<>();
        open.add(x);
        met.add(x);
        long parts = 0;
        while (!open.isEmpty()) {
            Object object = open.poll();
            if (object.getClass().isArray()) {
                parts += Array.getLength(object);
                continue;
            }
            for (Field field : object.getClass().getDeclaredFields()) {
                if (!Modifier.isStatic(field.getModifiers())) {
                    parts++;
                    field.setAccessible(true);
                    Object value = field.get(object);
                    if (!field.getType().isPrimitive() && value != null && met.add(value)) {
                        open.add(value);
                    }
                }
            }
        }
        return new long[] {met.size(), parts};
    }
}
