/** Promise 25: UNCLE. */
public final class Promise25UncleTest {
    public static void main(String[] args) {
        Kit.run(Promise25UncleTest.class);
    }

    private static void is(int v, int w, int rests, int first, int together) {
        IdeaMousers x = new IdeaMousers();
        Kit.due("rests of " + v + ", " + w, x.uncle(v, w, 0), rests);
        Kit.due("first of " + v + ", " + w, x.uncle(v, w, 1), first);
        Kit.due("together of " + v + ", " + w, x.uncle(v, w, 2), together);
    }

    static void vIs0To99() {
        Kit.illegal("-1", x -> x.uncle(-1, 0, 0));
        Kit.illegal("100", x -> x.uncle(100, 0, 0));
        Kit.illegal("wild", x -> x.uncle(Integer.MIN_VALUE, 0, 0));
    }

    static void wIs0To99() {
        Kit.illegal("-1", x -> x.uncle(0, -1, 0));
        Kit.illegal("100", x -> x.uncle(0, 100, 0));
        Kit.illegal("wild", x -> x.uncle(0, Integer.MAX_VALUE, 0));
    }

    static void anotherWhatIsRefused() {
        Kit.illegal("-1", x -> x.uncle(0, 0, -1));
        Kit.illegal("3", x -> x.uncle(99, 99, 3));
        Kit.illegal("wild", x -> x.uncle(0, 0, Integer.MIN_VALUE));
    }

    static void withoutWAllRest() {
        is(9, 0, 4, 0, 18);
        is(99, 0, 4, 0, 198);
        is(1, 0, 4, 0, 2);
        is(0, 0, 4, 0, 0);
    }

    static void withWBothListen() {
        is(99, 1, 1, 11, 0);
        is(99, 99, 1, 11, 0);
        is(0, 1, 1, 11, 0);
        is(0, 99, 1, 11, 0);
        is(5, 3, 1, 11, 0);
        is(7, 7, 1, 11, 0);
    }

    static void asksOnly() {
        Kit.asksOnly("uncle(5, 3, 1)", x -> x.uncle(5, 3, 1));
        Kit.asksOnly("uncle(5, 0, 2)", x -> x.uncle(5, 0, 2));
    }
}
