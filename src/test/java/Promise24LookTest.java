/** Promise 24: LOOK. */
public final class Promise24LookTest {
    private static final String THREE = "room 0;room 60;scheme 1 5 0;cat 1 0;cat 0 0;cat 0 0;";

    public static void main(String[] args) {
        Kit.run(Promise24LookTest.class);
    }

    private static void is(IdeaMousers x, String book, int cat, int left) {
        Kit.book(x, book);
        Kit.due("the cat by <" + book + ">", x.look(0), cat);
        Kit.due("left at the worst by <" + book + ">", x.look(1), left);
    }

    static void anotherWhatIsRefused() {
        Kit.illegal("-1", x -> x.look(-1));
        Kit.illegal("2", x -> x.look(2));
        Kit.illegal("the least number", x -> x.look(Integer.MIN_VALUE));
        Kit.illegal("the greatest number", x -> x.look(Integer.MAX_VALUE));
    }

    static void noneWithoutCats() {
        is(Kit.withHouse("room 0;scheme 0 1 0;"), "", -1, -1);
        is(new IdeaMousers(), "", -1, -1);
    }

    static void noneIfAllAreInLines() {
        is(Kit.withHouse(THREE), "2 0;0 0;1 1;", -1, -1);
        is(Kit.withHouse("room 0;scheme 0 1 0;cat 0 0;"), "0 1;", -1, -1);
    }

    static void fewestAreLeftAtTheWorst() {
        is(Kit.withHouse(THREE), "", 1, 1);
        is(Kit.withHouse(Kit.HOUSE), "", 1, 12);
        is(Kit.withHouse(Kit.HOUSE), "1 1;", 0, 4);
    }

    static void ofAlikeOnesTheFirst() {
        is(Kit.withHouse("room 0;room 60;scheme 1 5 0;cat 0 0;cat 0 0;"), "0 1;", 1, 1);
        is(Kit.withHouse("room 0;room 0;scheme 1 5 0;cat 0 0;cat 1 0;"), "", 0, 1);
    }

    static void askedAgainTheSame() {
        IdeaMousers x = Kit.withHouse("room 0;room 60;scheme 1 5 0;cat 0 0;cat 0 0;");
        for (int i = 0; i < 5; i++) {
            is(x, "", 0, 1);
            Kit.due("pairs", x.fits(0), 2);
        }
    }

    static void theOnlyOneInNoLine() {
        is(Kit.withHouse(THREE), "0 0;1 1;", 2, 1);
        is(Kit.withHouse(THREE), "1 1;2 0;", 0, 1);
        is(Kit.withHouse(THREE), "0 0;2 0;", 1, 1);
    }

    static void withoutPairsTheFirstAnd0() {
        is(Kit.withHouse(THREE), "0 1;", 1, 0);
        is(Kit.withHouse("room 0;cat 0 0;cat 0 0;"), "", 0, 0);
        is(Kit.withHouse("room 0;cat 0 0;cat 0 0;"), "0 0;", 1, 0);
    }

    static void theLastCat() {
        // In room 0 the last cat takes it; without, all pairs are left by each other cat.
        is(Kit.withHouse("room 20;room 60;scheme 1 5 0;cat 0 0;cat 0 0;cat 0 0;cat 0 0;cat 0 20;"), "", 4, 1);
    }

    static void asksOnly() {
        Kit.asksOnly("look(0)", x -> x.look(0));
        Kit.asksOnly("look(1)", x -> x.look(1));
    }
}
