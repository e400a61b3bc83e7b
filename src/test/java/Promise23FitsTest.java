/** Promise 23: FITS. */
public final class Promise23FitsTest {
    public static void main(String[] args) {
        Kit.run(Promise23FitsTest.class);
    }

    private static void is(IdeaMousers x, String book, int many, int first) {
        Kit.book(x, book);
        Kit.due("how many by <" + book + ">", x.fits(0), many);
        Kit.due("the first by <" + book + ">", x.fits(1), first);
    }

    static void anotherWhatIsRefused() {
        Kit.illegal("-1", x -> x.fits(-1));
        Kit.illegal("2", x -> x.fits(2));
        Kit.illegal("the least number", x -> x.fits(Integer.MIN_VALUE));
        Kit.illegal("the greatest number", x -> x.fits(Integer.MAX_VALUE));
    }

    static void withoutLinesAllPairs() {
        is(Kit.withHouse("room 0;room 60;scheme 1 5 0;cat 0 0;cat 1 0;"), "", 2, 0);
        is(Kit.withHouse("room 0;".repeat(8) + "scheme 0 1 0;".repeat(8)), "", 64, 0);
    }

    static void withoutABookAllPairs() {
        IdeaMousers x = Kit.withHouse(Kit.HOUSE);
        Kit.due("how many", x.fits(0), 16);
        Kit.due("the first", x.fits(1), 0);
    }

    static void noneWithoutSchemes() {
        is(Kit.withHouse("room 0;cat 0 0;"), "", 0, -1);
        is(Kit.withHouse("room 0;cat 0 0;"), "0 0;", 0, -1);
    }

    static void aCatTakesOneOrNone() {
        IdeaMousers x = Kit.withHouse("room 0;room 60;scheme 1 5 0;cat 0 0;cat 1 0;");
        is(x, "0 1;", 1, 0);
        is(x, "0 0;", 1, 1);
        is(x, "1 0;", 2, 0);
    }

    static void allLinesMustBeRight() {
        IdeaMousers x = Kit.withHouse("room 0;room 60;scheme 1 5 0;cat 0 0;cat 1 0;");
        is(x, "0 0;1 0;", 1, 1);
        is(x, "0 1;1 0;", 1, 0);
        is(x, "0 1;1 1;", 0, -1);
    }

    static void noneAnswersNone() {
        is(Kit.withHouse("room 0;room 60;scheme 1 5 0;cat 0 0;cat 1 0;"), "1 1;", 0, -1);
    }

    static void inARoomWhetherThereIsAWayOrNot() {
        is(Kit.withHouse(Kit.HOUSE), "1 1;", 4, 2);
    }

    static void theOthersStayWhereTheyAre() {
        IdeaMousers x = Kit.withHouse(Kit.HOUSE);
        Kit.work(x, "night;");
        is(x, "1 1;0 0;", 1, 2);
    }

    static void thoseThatLiveAlone() {
        IdeaMousers x = Kit.withHouse(Kit.HOUSE);
        Kit.work(x, "night;");
        is(x, "1 1;", 3, 2);
        Kit.work(x, "night;night;");
        is(x, "1 1;", 2, 22);
        IdeaMousers y = Kit.withHouse("room 0;scheme 0 1 0;scheme 0 1 0;");
        Kit.work(y, "join 1 0;");
        is(y, "", 1, 10);
    }

    static void theFirstIs10TimesTheSchemeAndTheRoom() {
        IdeaMousers x = Kit.withHouse("room 60;".repeat(7) + "room 40;" + "scheme 0 1 0;".repeat(7) + "scheme 0 30 0;cat 7 20;");
        is(x, "0 1;", 1, 77);
    }

    static void byTheGrowthOfThatRoom() {
        IdeaMousers x = Kit.withHouse("room 30;room 30;scheme 0 5 0;cat 0 1;cat 1 1;");
        Kit.law(x, "25*cats");
        is(x, "1 1;", 1, 1);
        is(x, "0 1;", 1, 0);
        Kit.law(x, "24*cats");
        is(x, "0 1;", 0, -1);
    }

    static void atNight900Too() {
        IdeaMousers x = Kit.withHouse("room 0;scheme 0 1 0;cat 0 0;");
        IdeaMousers y = Kit.withHouse("room 1;scheme 0 1 0;cat 0 0;");
        Kit.book(x, "0 1;");
        Kit.due("a night now", x.fits(0), 1);
        for (int i = 0; i < 5; i++) {
            Kit.work(y, "again 60 [again 60 [night;];];");
        }
        Kit.law(y, "night/900");
        is(y, "0 1;", 1, 0);
    }

    static void asksOnly() {
        Kit.asksOnly("fits(0)", x -> x.fits(0));
        Kit.asksOnly("fits(1)", x -> x.fits(1));
    }
}
