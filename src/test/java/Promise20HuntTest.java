/** Promise 20: HUNT, how many are given and how far the cats go. */
public final class Promise20HuntTest {
    private static final String LINE = "room 0;room 0;room 0;way 0 1;way 1 2;";

    public static void main(String[] args) {
        Kit.run(Promise20HuntTest.class);
    }

    private static void is(IdeaMousers x, int given, int ways) {
        Kit.due("given", x.hunt(0), given);
        Kit.due("ways", x.hunt(1), ways);
    }

    static void anotherWhatIsRefused() {
        Kit.illegal("-1", x -> x.hunt(-1));
        Kit.illegal("2", x -> x.hunt(2));
        Kit.illegal("the least number", x -> x.hunt(Integer.MIN_VALUE));
        Kit.illegal("the greatest number", x -> x.hunt(Integer.MAX_VALUE));
    }

    static void nothingWithoutCatsOrSchemes() {
        is(new IdeaMousers(), 0, 0);
        is(Kit.withHouse(LINE + "scheme 0 1 0;"), 0, 0);
        is(Kit.withHouse(LINE + "cat 0 0;"), 0, 0);
    }

    static void aHouseOfManyRooms() {
        is(Kit.withHouse(Kit.HOUSE), 2, 1);
    }

    static void noSchemeToTwoCats() {
        is(Kit.withHouse(LINE + "scheme 0 1 0;cat 0 0;cat 0 0;cat 0 0;"), 1, 0);
    }

    static void noTwoSchemesToACat() {
        is(Kit.withHouse(LINE + "scheme 0 1 0;scheme 0 1 0;cat 0 0;"), 1, 0);
    }

    static void thoseThatLiveAlone() {
        IdeaMousers x = Kit.withHouse(LINE + "scheme 0 1 0;scheme 0 1 0;scheme 0 1 0;cat 0 0;cat 1 0;");
        is(x, 2, 1);
        Kit.work(x, "join 0 1;night;");
        is(x, 1, 0);
        Kit.work(x, "night;");
        is(x, 0, 0);
    }

    static void byOpenWaysAlone() {
        IdeaMousers x = Kit.withHouse(LINE + "scheme 2 1 0;cat 0 0;");
        is(x, 1, 2);
        Kit.work(x, "shut 1;");
        is(x, 0, 0);
        Kit.work(x, "hide 0 1;");
        is(x, 0, 0);
        Kit.work(x, "shut 1;hide 0 1;");
        is(x, 1, 1);
    }

    static void thoseItWouldSeeThere() {
        for (int size = 9; size <= 11; size++) {
            is(Kit.withHouse("room 0;room 20;way 0 1;scheme 1 " + size + " 9;cat 0 10;"), size == 11 ? 1 : 0, size == 11 ? 1 : 0);
        }
    }

    static void mostAreGivenThoughByMoreWays() {
        is(Kit.withHouse("room 10;room 10;way 0 1;scheme 0 8 0;scheme 1 5 0;cat 0 9;cat 0 3;"), 2, 1);
    }

    static void fewestWaysTogether() {
        is(Kit.withHouse(LINE + "scheme 2 1 0;cat 0 0;cat 2 0;"), 1, 0);
        is(Kit.withHouse(LINE + "scheme 0 1 0;scheme 2 1 0;cat 2 0;cat 0 0;"), 2, 0);
        is(Kit.withHouse(LINE + "scheme 0 1 0;scheme 1 1 0;cat 1 0;cat 2 0;"), 2, 2);
    }

    static void oneInBetweenIsGivenNone() {
        is(Kit.withHouse("room 0;room 0;room 60;scheme 0 1 0;scheme 1 1 0;cat 0 0;cat 2 0;cat 1 0;"), 2, 0);
        is(Kit.withHouse("room 10;room 60;scheme 0 11 0;scheme 0 5 0;cat 0 9;cat 1 0;cat 0 0;"), 2, 0);
    }

    static void ofALaterHouseWithFewerCats() {
        IdeaMousers x = Kit.withHouse(LINE + "scheme 2 1 0;".repeat(8) + "cat 2 0;".repeat(5));
        is(x, 5, 0);
        Kit.house(x, LINE + "scheme 2 1 0;cat 0 0;");
        is(x, 1, 2);
        Kit.house(x, LINE + "scheme 2 1 0;scheme 0 1 0;cat 0 0;cat 0 0;cat 0 0;");
        is(x, 2, 2);
    }

    static void nothingOfAnEarlierHouseIsLeft() {
        // There the second cat gets scheme 0 or none; here is no second cat, so scheme 0 is the nearest one.
        IdeaMousers x = Kit.withHouse("room 0;room 60;scheme 0 5 0;scheme 1 1 0;cat 0 0;cat 0 0;");
        is(x, 1, 0);
        Kit.house(x, LINE + "scheme 0 1 0;scheme 2 1 0;cat 0 0;");
        is(x, 1, 0);
        Kit.due("the nearest one", x.prey(0), 0);
    }

    static void moreSchemesThanCats() {
        IdeaMousers x = Kit.withHouse("room 10;" + "scheme 0 1 0;".repeat(4) + "scheme 0 11 0;".repeat(4) + "cat 0 0;cat 0 0;");
        is(x, 2, 0);
    }

    static void noLateSchemeToTwoCats() {
        is(Kit.withHouse("room 10;" + "scheme 0 1 0;".repeat(3) + "scheme 0 11 0;cat 0 0;cat 0 0;cat 0 0;"), 1, 0);
    }

    static void theFirstGoesFarForTheLast() {
        is(Kit.withHouse(FAR), 3, 3);
    }

    /** The first cat sees all three schemes, the second one two, the last one scheme 0 alone. */
    static final String FAR = "room 10;room 0;room 0;room 10;way 0 1;way 1 2;way 2 3;"
        + "scheme 0 11 0;scheme 0 5 0;scheme 3 3 0;cat 0 8;cat 0 6;cat 0 0;";

    static void asManyAsCanBe() {
        is(Kit.withHouse(LINE + "scheme 2 1 0;".repeat(8) + "cat 0 0;".repeat(5)), 5, 10);
        is(Kit.withHouse(LINE + "scheme 2 1 0;".repeat(3) + "cat 0 0;".repeat(5)), 3, 6);
        String eight = "room 0;".repeat(8) + "way 0 1;way 1 2;way 2 3;way 3 4;way 4 5;way 5 6;way 6 7;";
        is(Kit.withHouse(eight + "scheme 7 1 0;".repeat(8) + "cat 0 0;".repeat(5)), 5, 35);
    }

    static void asksOnly() {
        Kit.asksOnly("hunt(0)", x -> x.hunt(0));
        Kit.asksOnly("hunt(1)", x -> x.hunt(1));
    }
}
