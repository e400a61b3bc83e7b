/**
 * Promise 38: a SEASON by a SEED. What is drawn by the seed 0: 0, 21468, 9988, 22117, 3498, 16927,
 * 16045, 19741. In each night of a house with schemes and cats come a scheme, a room and the number
 * that Q is for.
 */
public final class Promise38SeasonTest {
    private static final String TWO_ROOMS = "room 0;room 0;way 0 1;scheme 0 3 1;cat 1 0;";

    public static void main(String[] args) {
        Kit.run(Promise38SeasonTest.class);
    }

    static void nightsAre1To96() {
        Kit.illegal("0", x -> x.season(0, 0, 0, 0));
        Kit.illegal("97", x -> x.season(0, 97, 0, 0));
        Kit.illegal("-1", x -> x.season(0, -1, 0, 0));
        Kit.illegal("the greatest number", x -> x.season(0, Integer.MAX_VALUE, 0, 0));
        IdeaMousers x = Kit.withHouse("room 60;scheme 0 1 1;");
        Kit.due("1", x.season(0, 1, 0, 1), 2);
        Kit.due("96", x.season(0, 96, 0, 1), 97);
    }

    static void qIs0To16() {
        Kit.illegal("-1", x -> x.season(0, 1, -1, 0));
        Kit.illegal("17", x -> x.season(0, 1, 17, 0));
        Kit.illegal("the least number", x -> x.season(0, 1, Integer.MIN_VALUE, 0));
    }

    static void anotherWhatIsRefused() {
        Kit.illegal("-1", x -> x.season(0, 1, 0, -1));
        Kit.illegal("4", x -> x.season(0, 96, 16, 4));
        Kit.illegal("the greatest number", x -> x.season(0, 1, 0, Integer.MAX_VALUE));
    }

    static void hidesBeforeEachNight() {
        IdeaMousers x = Kit.withHouse(TWO_ROOMS);
        Kit.due("21468: stays in room 0", x.season(0, 1, 0, 0), 1);
        Kit.due("size", x.season(0, 1, 0, 1), 4);
        Kit.due("3498: stays in room 0", x.season(0, 2, 0, 1), 5);
        Kit.due("none took any", x.season(0, 2, 0, 3), -1);
        Kit.due("19741: hides in room 1", x.season(0, 3, 0, 0), 0);
        Kit.due("no size", x.season(0, 3, 0, 1), 0);
        Kit.due("on the mat", x.season(0, 3, 0, 2), 1);
        Kit.due("by the cat", x.season(0, 3, 0, 3), 0);
    }

    static void hidesIfItCan() {
        IdeaMousers x = Kit.withHouse(TWO_ROOMS);
        Kit.work(x, "shut 0;");
        Kit.due("the way is shut", x.season(0, 3, 0, 1), 6);
    }

    static void callsIfDrawnBelowQ() {
        IdeaMousers x = Kit.withHouse(TWO_ROOMS);
        // 9988 is 4 of 16; then 3498 calls the cat to room 0.
        Kit.due("4 is not below 4", x.season(0, 1, 4, 0), 1);
        Kit.due("4 is below 5", x.season(0, 1, 5, 0), 0);
        Kit.due("q 16: always", x.season(0, 1, 16, 0), 0);
        Kit.due("q 0: never", x.season(0, 1, 0, 0), 1);
    }

    static void neverBelow0AlwaysBelow16() {
        IdeaMousers x = Kit.withHouse("room 0;room 0;way 0 1;scheme 0 1 0;scheme 0 1 0;cat 1 0;");
        Kit.work(x, "shut 0;");
        IdeaMousers y = Kit.withHouse("room 0;scheme 0 1 0;cat 0 0;");
        for (int seed = 0; seed < 50; seed++) {
            Kit.due("q 0 by seed " + seed, x.season(seed, 96, 0, 2), 0);
            Kit.due("q 16 in one room by seed " + seed, y.season(seed, 1, 16, 2), 1);
        }
    }

    static void callsIfItCan() {
        IdeaMousers x = Kit.withHouse(TWO_ROOMS);
        Kit.work(x, "shut 0;");
        Kit.due("the way is shut", x.season(0, 1, 16, 0), 1);
    }

    static void schemesWithoutCatsDrawTwoNumbersANight() {
        // 0 and 21468, 9988 and 22117 (scheme 0 to room 1), 3498 and 16927.
        IdeaMousers x = Kit.withHouse("room 5;room 9;way 0 1;scheme 0 1 0;scheme 0 1 0;");
        Kit.law(x, "hide");
        Kit.due("first night", x.season(0, 1, 16, 1), 1 + 1 + 5 + 5);
        Kit.due("second night", x.season(0, 2, 16, 1), 12 + 9 + 5);
        Kit.due("third night", x.season(0, 3, 16, 1), 26 + 9 + 5);
        Kit.due("all live", x.season(0, 96, 16, 0), 3);
    }

    static void catsWithoutSchemes() {
        IdeaMousers x = Kit.withHouse("room 0;room 0;way 0 1;cat 0 0;");
        Kit.due("none live", x.season(3, 96, 16, 0), 0);
        Kit.due("no size", x.season(3, 96, 16, 1), 0);
        Kit.due("none lie", x.season(3, 96, 16, 2), 0);
        Kit.due("none took", x.season(3, 96, 16, 3), -1);
    }

    static void schemesThatDoNotLiveAreStillDrawn() {
        // Scheme 1 is joined; drawn are, by the seed 0: 0 and 0, 0 and 1 (scheme 0 to room 1).
        IdeaMousers x = Kit.withHouse("room 5;room 9;way 0 1;scheme 0 1 0;scheme 0 1 0;");
        Kit.law(x, "hide");
        Kit.work(x, "join 0 1;");
        Kit.due("second night", x.season(0, 2, 16, 1), 2 + 5 + 9);
        // By the seed 12 the first number is odd, the second too: scheme 1 can't hide.
        int seed = 0;
        while ((drawn(seed) & 1) == 0 || (drawn(next(seed)) & 1) == 0) {
            seed++;
        }
        Kit.due("scheme 0 stays by seed " + seed, x.season(seed, 1, 16, 1), 2 + 5);
    }

    private static int next(int seed) {
        return seed * 1103515245 + 12345;
    }

    private static int drawn(int seed) {
        return (int) ((next(seed) & 0xFFFFFFFFL) / 65536 % 32768);
    }

    static void seedsOf32Bits() {
        // Of each seed it is drawn whether the scheme hides in room 1, where the cat is.
        IdeaMousers x = Kit.withHouse(TWO_ROOMS);
        int[] seeds = {0, 1, -1, Integer.MIN_VALUE, Integer.MAX_VALUE, 123456789, -987654321};
        for (int seed : seeds) {
            int live = drawn(next(seed)) % 2 == 1 ? 0 : 1;
            Kit.due("by seed " + seed, x.season(seed, 1, 0, 0), live);
        }
    }

    /** What is drawn is done on another object by works; in the end both tell the same. */
    private static void asByWorks(String house, String law, int seed, int nights, int q) {
        IdeaMousers x = Kit.withHouse(house);
        IdeaMousers y = Kit.withHouse(house);
        if (!law.isEmpty()) {
            Kit.law(x, law);
            Kit.law(y, law);
        }
        int rooms = y.told(0);
        int schemes = y.told(2);
        int cats = y.told(3);
        int[] state = {seed};
        StringBuilder work = new StringBuilder();
        for (int night = 0; night < nights; night++) {
            work.append("hide " + drawnBy(state, schemes) + " " + drawnBy(state, rooms) + ";");
            if (drawnBy(state, 16) < q) {
                work.append("call " + drawnBy(state, cats) + " " + drawnBy(state, rooms) + ";");
            }
            work.append("night;");
            // Six nights at least are in a work, so that sixteen works are enough.
            if (work.length() > 125 || night == nights - 1) {
                Kit.due("no fault by <" + work + ">", Kit.work(y, work.toString()) >= 0 ? 1 : 0, 1);
                work.setLength(0);
            }
        }
        String what = nights + " nights by seed " + seed + ", q " + q + ": ";
        Kit.due(what + "live", x.season(seed, nights, q, 0), y.told(5));
        Kit.due(what + "size", x.season(seed, nights, q, 1), y.told(11));
        Kit.due(what + "mat", x.season(seed, nights, q, 2), Integer.bitCount(y.told(6)));
        Kit.due(what + "cat", x.season(seed, nights, q, 3), y.proudest(0));
    }

    private static int drawnBy(int[] state, int many) {
        int number = drawn(state[0]);
        state[0] = next(state[0]);
        return number % many;
    }

    static void asTheSameStepsDoneByWorks() {
        String[] houses = {
            Kit.UNEVEN,
            // Three rooms, two ways, four schemes, five cats; then more schemes than rooms and cats.
            "room 30;room 15;room 40;way 0 1;way 1 2;scheme 0 9 1;scheme 2 5 0;scheme 1 3 1;scheme 2 12 0;"
                + "cat 0 1;cat 1 3;cat 2 9;cat 0 0;cat 1 5;",
            "room 25;room 50;room 35;way 1 0;way 2 0;way 1 2;way 0 1;scheme 0 1 1;scheme 0 2 0;scheme 1 3 1;"
                + "scheme 2 4 1;scheme 2 5 0;scheme 1 6 2;scheme 0 7 1;cat 2 6;cat 0 3;",
        };
        int[] nights = {1, 2, 5, 11, 30, 96};
        int[] qs = {0, 3, 8, 16};
        for (String house : houses) {
            for (int seed = 1; seed <= 12; seed++) {
                asByWorks(house, seed % 2 == 0 ? "" : "hide%4", seed * 7654321, nights[seed % 6], qs[seed % 4]);
            }
        }
    }

    static void theCatThatTookMostByThen() {
        IdeaMousers y = Kit.withHouse("room 0;room 0;scheme 1 1 0;scheme 0 2 0;scheme 1 9 0;cat 0 0;cat 1 0;");
        Kit.work(y, "night;");
        Kit.due("what was taken before lies there, too", y.season(7, 1, 0, 2), 3);
        Kit.due("the second cat took two by then", y.season(7, 1, 0, 3), 1);
        IdeaMousers x = Kit.withHouse("room 0;room 0;scheme 0 2 0;scheme 1 9 0;cat 0 0;cat 1 0;");
        Kit.due("of alike ones the first", x.season(7, 1, 0, 3), 0);
    }

    static void joinedOnesDoNotLie() {
        IdeaMousers x = Kit.withHouse("room 60;scheme 0 1 0;scheme 0 1 0;");
        Kit.work(x, "join 0 1;");
        Kit.due("mat", x.season(1, 9, 0, 2), 0);
        Kit.due("live", x.season(1, 9, 0, 0), 1);
    }

    static void byTheLawFromTheNightOfNow() {
        IdeaMousers x = Kit.withHouse(TWO_ROOMS);
        Kit.law(x, "night*10");
        Kit.work(x, "night;");
        Kit.due("by the law", x.season(0, 1, 0, 1), 13);
    }

    static void beyondNight900Too() {
        IdeaMousers x = Kit.withHouse("room 60;scheme 0 1 0;");
        for (int i = 0; i < 5; i++) {
            Kit.work(x, "again 60 [again 60 [night;];];");
        }
        Kit.law(x, "night/901");
        Kit.due("by nights 900, 901, 902", x.season(0, 3, 0, 1), 3);
    }

    static void asksOnly() {
        Kit.asksOnly("season(5, 96, 9, 0)", x -> x.season(5, 96, 9, 0));
        Kit.asksOnly("season(-5, 3, 16, 3)", x -> x.season(-5, 3, 16, 3));
    }
}
