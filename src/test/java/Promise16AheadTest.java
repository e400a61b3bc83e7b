/** Promise 16: what is behind some nights in which nothing else is done. */
public final class Promise16AheadTest {
    public static void main(String[] args) {
        Kit.run(Promise16AheadTest.class);
    }

    static void nightsAre0To99() {
        Kit.illegal("-1", x -> x.ahead(-1, 0));
        Kit.illegal("100", x -> x.ahead(100, 0));
        Kit.illegal("the least number", x -> x.ahead(Integer.MIN_VALUE, 0));
        Kit.illegal("the greatest number", x -> x.ahead(Integer.MAX_VALUE, 0));
    }

    static void anotherWhatIsRefused() {
        Kit.illegal("-1", x -> x.ahead(0, -1));
        Kit.illegal("3", x -> x.ahead(99, 3));
    }

    static void nightAfterNight() {
        IdeaMousers x = Kit.withHouse(Kit.HOUSE);
        int[][] due = {{15, 41, 0}, {13, 37, 1}, {12, 33, 2}, {12, 36, 2}};
        for (int n = 0; n < 4; n++) {
            for (int what = 0; what < 3; what++) {
                Kit.due("ahead(" + n + ", " + what + ")", x.ahead(n, what), due[n][what]);
            }
        }
    }

    static void behind0NightsAsNow() {
        IdeaMousers x = Kit.made(Kit::rich);
        Kit.due("live", x.ahead(0, 0), x.told(5));
        Kit.due("size", x.ahead(0, 1), x.told(11));
        Kit.due("mat", x.ahead(0, 2), Integer.bitCount(x.told(6)));
    }

    static void behind99Nights() {
        IdeaMousers x = Kit.withHouse("room 1;scheme 0 1 0;scheme 0 1 0;cat 0 0;");
        Kit.law(x, "night/98*(1-scheme)");
        Kit.due("98", x.ahead(98, 0), 3);
        Kit.due("99", x.ahead(99, 0), 2);
        Kit.due("size", x.ahead(99, 1), 1);
        Kit.due("mat", x.ahead(99, 2), 1);
    }

    static void joinedOnesDoNotLieOnTheMat() {
        IdeaMousers x = Kit.withHouse("room 0;scheme 0 1 0;scheme 0 1 0;cat 0 0;");
        Kit.work(x, "join 0 1;");
        Kit.due("one", x.ahead(9, 2), 1);
    }

    static void beyondNight900Too() {
        IdeaMousers x = Kit.withHouse("room 1;scheme 0 1 0;cat 0 0;");
        for (int i = 0; i < 5; i++) {
            Kit.work(x, "again 60 [again 60 [night;];];");
        }
        Kit.due("night 900", x.told(4), 900);
        Kit.law(x, "night/903");
        Kit.due("not taken in night 902", x.ahead(3, 2), 0);
        Kit.due("taken in night 903", x.ahead(4, 2), 1);
        Kit.due("night 900", x.told(4), 900);
    }

    static void asWorkWouldMakeIt() {
        IdeaMousers x = Kit.made(Kit::rich);
        int live = x.ahead(7, 0);
        int size = x.ahead(7, 1);
        int mat = x.ahead(7, 2);
        Kit.work(x, "again 7 [night;];");
        Kit.due("live", x.told(5), live);
        Kit.due("size", x.told(11), size);
        Kit.due("mat", Integer.bitCount(x.told(6)), mat);
    }

    static void asksOnly() {
        Kit.asksOnly("ahead(99, 0)", x -> x.ahead(99, 0));
        Kit.asksOnly("ahead(99, 1)", x -> x.ahead(99, 1));
        Kit.asksOnly("ahead(99, 2)", x -> x.ahead(99, 2));
    }
}
