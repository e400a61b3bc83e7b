/** Promise 21: the scheme a cat is given by HUNT. */
public final class Promise21PreyTest {
    private static final String LINE = "room 0;room 0;room 0;way 0 1;way 1 2;";

    public static void main(String[] args) {
        Kit.run(Promise21PreyTest.class);
    }

    private static void is(IdeaMousers x, int... due) {
        for (int cat = 0; cat < due.length; cat++) {
            Kit.due("prey(" + cat + ")", x.prey(cat), due[cat]);
        }
    }

    static void noSuchCat() {
        Kit.missing("prey(-1)", x -> x.prey(-1));
        Kit.missing("prey(3)", x -> x.prey(3));
        Kit.missing("the least number", x -> x.prey(Integer.MIN_VALUE));
        Kit.missing("the greatest number", x -> x.prey(Integer.MAX_VALUE));
    }

    static void aHouseOfManyRooms() {
        is(Kit.withHouse(Kit.HOUSE), 1, 0, -1);
    }

    static void noneWithoutSchemes() {
        is(Kit.withHouse(LINE + "cat 0 0;cat 1 0;"), -1, -1);
    }

    static void noneForOneThatIsShutIn() {
        IdeaMousers x = Kit.withHouse(Kit.HOUSE);
        Kit.work(x, "shut 0;shut 2;");
        is(x, 1, 2, -1);
        Kit.work(x, "shut 1;");
        is(x, 1, -1, -1);
    }

    static void thoseThatLiveAlone() {
        IdeaMousers x = Kit.withHouse(Kit.HOUSE);
        Kit.work(x, "shut 0;shut 2;shut 1;night;");
        is(x, 0, -1, -1);
        Kit.work(x, "night;");
        is(x, -1, -1, -1);
    }

    static void ofFewestWays() {
        is(Kit.withHouse(LINE + "scheme 2 1 0;cat 0 0;cat 2 0;"), -1, 0);
        is(Kit.withHouse(LINE + "scheme 0 1 0;scheme 2 1 0;cat 2 0;cat 0 0;"), 1, 0);
    }

    static void ofAlikeWaysTheLeastSchemeForTheFirstCat() {
        is(Kit.withHouse(LINE + "scheme 1 1 0;scheme 1 1 0;cat 0 0;cat 2 0;"), 0, 1);
        is(Kit.withHouse(LINE + "scheme 1 1 0;scheme 1 1 0;scheme 1 1 0;cat 0 0;"), 0);
        is(Kit.withHouse(LINE + "scheme 2 1 0;".repeat(8) + "cat 0 0;".repeat(5)), 0, 1, 2, 3, 4);
        is(Kit.withHouse(LINE + "scheme 1 9 0;scheme 0 1 0;scheme 0 1 0;cat 0 0;cat 0 0;"), 1, 2);
    }

    static void ofAlikeWaysNoneLast() {
        is(Kit.withHouse(LINE + "scheme 1 1 0;cat 0 0;cat 2 0;"), 0, -1);
        is(Kit.withHouse(LINE + "scheme 1 1 0;cat 1 0;cat 1 0;cat 1 0;"), 0, -1, -1);
    }

    static void theGoodNoseGoesFarSoThatMostAreGiven() {
        is(Kit.withHouse("room 10;room 10;way 0 1;scheme 0 8 0;scheme 1 5 0;cat 0 9;cat 0 3;"), 1, 0);
    }

    static void oneInBetweenIsGivenNone() {
        is(Kit.withHouse("room 0;room 0;room 60;scheme 0 1 0;scheme 1 1 0;cat 0 0;cat 2 0;cat 1 0;"), 0, -1, 1);
        is(Kit.withHouse("room 10;room 60;scheme 0 11 0;scheme 0 5 0;cat 0 9;cat 1 0;cat 0 0;"), 1, -1, 0);
    }

    static void ofALaterHouseWithFewerCats() {
        IdeaMousers x = Kit.withHouse(LINE + "scheme 2 1 0;".repeat(8) + "cat 2 0;".repeat(5));
        is(x, 0, 1, 2, 3, 4);
        Kit.house(x, LINE + "scheme 2 1 0;cat 0 0;");
        is(x, 0);
    }

    static void theLastSchemeAndTheLastCat() {
        is(Kit.withHouse("room 40;" + "scheme 0 1 0;".repeat(7) + "scheme 0 21 0;" + "cat 0 0;".repeat(4) + "cat 0 20;"),
            -1, -1, -1, -1, 7);
    }

    static void moreSchemesThanCats() {
        is(Kit.withHouse("room 10;" + "scheme 0 1 0;".repeat(4) + "scheme 0 11 0;".repeat(4) + "cat 0 0;cat 0 0;"), 4, 5);
    }

    static void noLateSchemeToTwoCats() {
        is(Kit.withHouse("room 10;" + "scheme 0 1 0;".repeat(3) + "scheme 0 11 0;cat 0 0;cat 0 0;cat 0 0;"), 3, -1, -1);
    }

    static void theFirstGoesFarForTheLast() {
        is(Kit.withHouse(Promise20HuntTest.FAR), 2, 1, 0);
    }

    static void whatTheFirstHasTheLastHasNot() {
        is(Kit.withHouse("room 0;room 0;scheme 0 1 0;scheme 1 1 0;cat 0 0;cat 1 0;cat 0 0;"), 0, 1, -1);
    }

    static void soManyAsTheHouseHas() {
        Kit.hasSoMany("prey", 2, (x, cat) -> x.prey(cat));
    }

    static void asksOnly() {
        Kit.asksOnly("prey(0)", x -> x.prey(0));
        Kit.asksOnly("prey(1)", x -> x.prey(1));
        Kit.asksOnly("prey(2)", x -> x.prey(2));
    }
}
