/** Promise 6, with what the Terms say of a BOOK. */
public final class Promise06BookTest {
    private static final String FIVE_CATS = "room 0;room 60;scheme 0 1 0;" + "cat 0 1;".repeat(5);

    public static void main(String[] args) {
        Kit.run(Promise06BookTest.class);
    }

    private static void stands(String text, int lines) {
        IdeaMousers x = Kit.withHouse(FIVE_CATS);
        Kit.book(x, "3 0;4 0;");
        Kit.due("book <" + text + ">", Kit.book(x, text), lines);
        Kit.due("no fault by <" + text + ">", x.fault(), -1);
        Kit.due("lines by <" + text + ">", x.told(9), lines);
    }

    private static void faulty(String text, int answer, int place) {
        IdeaMousers x = Kit.made(Kit::rich);
        Kit.due("book <" + text + ">", Kit.book(x, text), answer);
        Kit.due("its place", x.fault(), place);
        Kit.due("tape is empty then", x.count(1), 0);
        Kit.due("it is no refusal", x.status(0) + x.status(1), 0);
        Kit.sameAs("all stays by <" + text + ">", x, Kit::rich);
    }

    private static void longTape(IdeaMousers x) {
        Kit.rich(x);
        Kit.put(x, " ".repeat(80));
    }

    static void lengthBelow0IsRefused() {
        Kit.illegal("book(-1)", x -> x.book(-1));
        Kit.illegal("book of the least number", x -> x.book(Integer.MIN_VALUE));
    }

    static void lengthAboveTheTapeIsRefused() {
        Kit.illegal("book(21) of 20", x -> x.book(21));
        Kit.illegal("book(1) of 0", Kit::rich, x -> x.book(1));
        Kit.illegal("book of the greatest number", x -> x.book(Integer.MAX_VALUE));
    }

    static void lengthAbove60IsRefused() {
        Kit.illegal("book(61) of 80", Promise06BookTest::longTape, x -> x.book(61));
        Kit.illegal("book(80) of 80", Promise06BookTest::longTape, x -> x.book(80));
    }

    static void lengthOf60() {
        IdeaMousers x = Kit.withHouse(FIVE_CATS);
        Kit.put(x, " ".repeat(56) + "4 1;0 1;");
        Kit.due("book(60)", x.book(60), 1);
        Kit.due("what was behind is gone, too", x.count(1), 0);
    }

    static void lengthOf0IsABookWithoutLines() {
        IdeaMousers x = Kit.made(Kit::richWithTape);
        Kit.due("book(0)", x.book(0), 0);
        Kit.due("no lines", x.told(9), 0);
        Kit.due("no fault", x.fault(), -1);
        Kit.due("tape", x.count(1), 0);
        stands("", 0);
        stands("   ", 0);
    }

    static void answersHowManyLines() {
        stands("0 1;", 1);
        stands("0 1;2 0;", 2);
        stands("4 0;3 1;2 0;1 1;0 0;", 5);
    }

    static void eachCatOnce() {
        faulty("0 1;0 0;", -8, 4);
        faulty("0 1;0 1;", -8, 4);
        faulty("0 0;1 1;2 0;00 1;", -8, 12);
        faulty("1 1;1", -8, 4);
    }

    static void catsThatAreTold() {
        stands("4 1;", 1);
        faulty("2 1;3 1;", -8, 4);
        faulty("3 1;", -8, 0);
        faulty("32 1;", -8, 0);
        faulty("4294967296 1;", -8, 0);
        IdeaMousers x = Kit.withHouse("room 0;");
        Kit.due("no cats", Kit.book(x, "0 1;"), -8);
        Kit.due("its place", x.fault(), 0);
        Kit.due("no lines", x.book(0), 0);
    }

    static void catsOfTheHouseThatStands() {
        for (String text : Kit.FAULTY_HOUSES) {
            IdeaMousers x = Kit.withHouse(Kit.UNEVEN);
            Kit.due("a house with a fault", Kit.house(x, text), -9);
            Kit.due("two cats", Kit.book(x, "0 1;1 0;"), 2);
            Kit.due("no third one", Kit.book(x, "2 1;"), -8);
        }
    }

    static void kindsAre0And1() {
        stands("0 0;", 1);
        stands("0 01;", 1);
        faulty("0 2;", -8, 2);
        faulty("0 10;", -8, 2);
    }

    static void whatCannotStandThere() {
        faulty("a 1;", -9, 0);
        faulty(";", -9, 0);
        faulty("0;", -9, 1);
        faulty("01;", -9, 2);
        faulty("0 1;;", -9, 4);
        faulty("0 1,1 1;", -9, 3);
        faulty("0 1 1;", -9, 4);
        faulty("0 x;", -9, 2);
        faulty("0 -1;", -9, 2);
        faulty("0\t1;", -9, 1);
        faulty("cat 0 1;", -9, 0);
        faulty("0 1;\u0000", -9, 4);
    }

    static void atTheLengthIfTheTextEndsTooEarly() {
        faulty("0", -9, 1);
        faulty("0 ", -9, 2);
        faulty("0 1", -9, 3);
        faulty("0 1  ", -9, 5);
        faulty("0 1;1 1", -9, 7);
    }

    static void theFirstFromTheLeft() {
        faulty("3 2", -8, 0);
        faulty("0 2 x", -8, 2);
        faulty("0 1;0 2;", -8, 4);
        faulty("x 2;", -9, 0);
    }

    static void blanksMayStandAheadOfAllAndAtTheEnd() {
        stands("  0   1  ;  2  0 ;  ", 2);
        stands("000 0001;", 1);
    }

    static void isTheLatestAlone() {
        IdeaMousers x = Kit.withHouse("room 0;scheme 0 1 0;cat 0 0;cat 0 0;");
        Kit.book(x, "0 0;");
        Kit.due("wrong", x.fits(0), 0);
        Kit.book(x, "0 1;");
        Kit.due("right", x.fits(0), 1);
        Kit.book(x, "1 0;");
        Kit.due("the line of cat 0 is gone", x.look(0), 0);
        Kit.due("one line", x.told(9), 1);
    }

    static void aFaultLeavesTheLines() {
        IdeaMousers x = Kit.withHouse("room 0;scheme 0 1 0;cat 0 0;cat 0 0;");
        Kit.book(x, "0 0;");
        Kit.due("fault behind a good line", Kit.book(x, "0 1;1 9;"), -8);
        Kit.due("still cat 0 takes none", x.fits(0), 0);
        Kit.due("one line", x.told(9), 1);
    }

    static void changesNothingElse() {
        IdeaMousers x = Kit.made(Kit::rich);
        Kit.due("book", Kit.book(x, " 1 1 ; "), 1);
        Kit.due("no fault", x.fault(), -1);
        Kit.sameAs("all else stays", x, Kit::rich);
    }

    static void staysBehindWorkUndoAndRestore() {
        IdeaMousers x = Kit.withHouse(FIVE_CATS);
        x.image();
        Kit.book(x, "0 1;4 0;");
        Kit.work(x, "night;");
        Kit.due("behind work", x.told(9), 2);
        x.undo();
        Kit.due("behind undo", x.told(9), 2);
        x.restore();
        Kit.due("behind restore", x.told(9), 2);
    }
}
