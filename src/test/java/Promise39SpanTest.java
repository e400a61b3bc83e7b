/** Promise 39: seasons by several seeds. */
public final class Promise39SpanTest {
    private static final String TWO_ROOMS = "room 0;room 0;way 0 1;scheme 0 3 1;cat 1 0;";

    public static void main(String[] args) {
        Kit.run(Promise39SpanTest.class);
    }

    static void seedsAre1To20() {
        Kit.illegal("0", x -> x.span(0, 0, 1, 0, 0, 0));
        Kit.illegal("21", x -> x.span(0, 21, 1, 0, 0, 0));
        Kit.illegal("the least number", x -> x.span(0, Integer.MIN_VALUE, 1, 0, 0, 0));
        IdeaMousers x = Kit.withHouse("room 60;scheme 0 1 0;");
        Kit.due("1", x.span(0, 1, 1, 0, 2, 0), 1);
        Kit.due("20", x.span(0, 20, 1, 0, 2, 0), 20);
    }

    static void nightsAre1To96() {
        Kit.illegal("0", x -> x.span(0, 1, 0, 0, 0, 0));
        Kit.illegal("97", x -> x.span(0, 1, 97, 0, 0, 0));
        Kit.illegal("the greatest number", x -> x.span(0, 1, Integer.MAX_VALUE, 0, 0, 0));
        IdeaMousers x = Kit.withHouse("room 1;scheme 0 1 0;cat 0 0;");
        Kit.law(x, "night/95");
        Kit.due("95", x.span(0, 1, 95, 0, 0, 0), 1);
        Kit.due("96", x.span(0, 1, 96, 0, 0, 0), 0);
    }

    static void qIs0To16() {
        Kit.illegal("-1", x -> x.span(0, 1, 1, -1, 0, 0));
        Kit.illegal("17", x -> x.span(0, 1, 1, 17, 0, 0));
        IdeaMousers x = Kit.withHouse(TWO_ROOMS);
        Kit.due("0", x.span(0, 1, 1, 0, 0, 0), 1);
        Kit.due("4", x.span(0, 1, 1, 4, 0, 0), 1);
        Kit.due("5", x.span(0, 1, 1, 5, 0, 0), 0);
        Kit.due("16", x.span(0, 1, 1, 16, 0, 0), 0);
    }

    static void anotherWhatIsRefused() {
        Kit.illegal("-1", x -> x.span(0, 1, 1, 0, -1, 0));
        Kit.illegal("3", x -> x.span(0, 1, 1, 0, 3, 0));
    }

    static void noSuchSchemeIsIllegalForEachWhat() {
        for (int what = 0; what <= 2; what++) {
            int which = what;
            Kit.illegal("-1 for " + what, x -> x.span(0, 1, 1, 0, which, -1));
            Kit.illegal("4 for " + what, x -> x.span(0, 1, 1, 0, which, 4));
            Kit.illegal("wild for " + what, x -> x.span(0, 1, 1, 0, which, Integer.MAX_VALUE));
        }
        Kit.illegal("no scheme at all", x -> Kit.house(x, "room 0;cat 0 0;"), x -> x.span(3, 1, 1, 0, 0, 0));
        Kit.due("the last one", Kit.withHouse("room 0;" + "scheme 0 1 0;".repeat(8)).span(0, 1, 1, 0, 2, 7), 1);
    }

    static void soManySchemesAsTheHouseHas() {
        // By the seed 0 scheme 0 hides in room 3; schemes 1 and 2 are taken.
        Kit.due("the last of three", Kit.withHouse(Kit.UNEVEN).span(0, 1, 1, 0, 1, 2), 1);
        Kit.illegal("a fourth", x -> Kit.house(x, Kit.UNEVEN), x -> x.span(0, 1, 1, 0, 1, 3));
    }

    static void asTheSeasonsByEachSeed() {
        int[] firsts = {0, 77, -5, Integer.MAX_VALUE - 3};
        for (int first : firsts) {
            IdeaMousers x = Kit.withHouse(Kit.HOUSE);
            int fewest = 9;
            int most = -1;
            int lives = 0;
            for (int i = 0; i < 20; i++) {
                int alive = x.season(first + i, 4, 9, 0);
                fewest = Math.min(fewest, Integer.bitCount(alive));
                most = Math.max(most, Integer.bitCount(alive));
                lives += alive >> 2 & 1;
            }
            Kit.due("fewest from " + first, x.span(first, 20, 4, 9, 0, 2), fewest);
            Kit.due("most from " + first, x.span(first, 20, 4, 9, 1, 2), most);
            Kit.due("lives from " + first, x.span(first, 20, 4, 9, 2, 2), lives);
        }
    }

    static void ofOneSeedFewestAndMostAreOne() {
        IdeaMousers y = Kit.withHouse(TWO_ROOMS);
        for (int what = 0; what <= 2; what++) {
            Kit.due("two nights, what " + what, y.span(0, 1, 2, 0, what, 0), 1);
            Kit.due("three nights, what " + what, y.span(0, 1, 3, 0, what, 0), 0);
        }
    }

    static void eightLive() {
        IdeaMousers x = Kit.withHouse("room 60;" + "scheme 0 1 0;".repeat(8));
        Kit.due("fewest", x.span(0, 20, 96, 16, 0, 0), 8);
        Kit.due("most", x.span(0, 20, 96, 16, 1, 0), 8);
    }

    static void oneThatDoesNotLiveNow() {
        IdeaMousers x = Kit.withHouse("room 60;scheme 0 1 0;scheme 0 1 0;");
        Kit.work(x, "join 0 1;");
        Kit.due("by none", x.span(0, 20, 1, 0, 2, 1), 0);
        Kit.due("most", x.span(0, 20, 1, 0, 1, 1), 1);
    }

    static void asksOnly() {
        Kit.asksOnly("span(5, 20, 96, 9, 0, 3)", x -> x.span(5, 20, 96, 9, 0, 3));
        Kit.asksOnly("span(7, 3, 2, 16, 2, 2)", x -> x.span(7, 3, 2, 16, 2, 2));
    }
}
