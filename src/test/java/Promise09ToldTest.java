/** Promise 9: what is told of the whole. */
public final class Promise09ToldTest {
    public static void main(String[] args) {
        Kit.run(Promise09ToldTest.class);
    }

    private static String full() {
        return "room 0;room 60;" + "room 0;".repeat(6) + "way 0 1;".repeat(12) + "scheme 1 60 9;".repeat(8) + "cat 7 0;".repeat(5);
    }

    static void anotherWhatIsRefused() {
        Kit.illegal("told(-1)", x -> x.told(-1));
        Kit.illegal("told(12)", x -> x.told(12));
        Kit.illegal("told of the least number", x -> x.told(Integer.MIN_VALUE));
        Kit.illegal("told of the greatest number", x -> x.told(Integer.MAX_VALUE));
    }

    static void howManyOfEachKind() {
        IdeaMousers x = Kit.withHouse(Kit.HOUSE);
        Kit.due("rooms", x.told(0), 4);
        Kit.due("ways", x.told(1), 4);
        Kit.due("schemes", x.told(2), 4);
        Kit.due("cats", x.told(3), 3);
        IdeaMousers y = Kit.withHouse(full());
        Kit.due("rooms", y.told(0), 8);
        Kit.due("ways", y.told(1), 12);
        Kit.due("schemes", y.told(2), 8);
        Kit.due("cats", y.told(3), 5);
    }

    static void schemesThatDoNotLiveAreStillTold() {
        IdeaMousers x = Kit.withHouse(Kit.HOUSE);
        Kit.work(x, "night;");
        Kit.due("schemes", x.told(2), 4);
    }

    static void theNight() {
        IdeaMousers x = Kit.withHouse(Kit.HOUSE);
        Kit.due("at first", x.told(4), 0);
        Kit.work(x, "night;night;");
        Kit.due("behind two", x.told(4), 2);
    }

    static void bitsOfThoseThatLive() {
        IdeaMousers x = Kit.withHouse(full());
        Kit.due("all", x.told(5), 255);
        Kit.work(x, "join 0 7;");
        Kit.due("but the last", x.told(5), 127);
    }

    static void bitsOfTheMatJoinedOnesNot() {
        IdeaMousers x = Kit.withHouse("room 0;scheme 0 1 0;scheme 0 1 0;scheme 0 1 0;cat 0 0;");
        Kit.due("bare", x.told(6), 0);
        Kit.work(x, "join 0 1;night;");
        Kit.due("the first, by its size", x.told(6), 1);
        Kit.work(x, "night;");
        Kit.due("the last, too", x.told(6), 5);
        Kit.due("joined", x.told(7), 2);
    }

    static void bitsOfJoinedOnesTakenOnesNot() {
        IdeaMousers x = Kit.withHouse(full());
        Kit.work(x, "join 7 0;join 7 6;");
        Kit.due("joined", x.told(7), 65);
        Kit.due("mat", x.told(6), 0);
    }

    static void bitsOfShutWays() {
        IdeaMousers x = Kit.withHouse(full());
        Kit.due("none", x.told(8), 0);
        Kit.work(x, "shut 0;shut 11;");
        Kit.due("the first and the last", x.told(8), 2049);
    }

    static void linesOfTheBook() {
        IdeaMousers x = Kit.withHouse(full());
        Kit.due("none", x.told(9), 0);
        Kit.book(x, "0 0;1 0;2 0;3 0;4 0;");
        Kit.due("five", x.told(9), 5);
        Kit.book(x, "");
        Kit.due("none", x.told(9), 0);
    }

    static void stepsRefusedAre0AheadOfAnyWork() {
        Kit.due("new", new IdeaMousers().told(10), 0);
        Kit.due("with a house", Kit.withHouse(Kit.HOUSE).told(10), 0);
    }

    static void stepsRefusedByTheLatestWork() {
        IdeaMousers x = Kit.withHouse(Kit.HOUSE);
        Kit.work(x, "join 0 0;night;join 1 1;");
        Kit.due("two", x.told(10), 2);
        Kit.work(x, "again 9 [join 2 2;];");
        Kit.due("nine", x.told(10), 9);
        Kit.work(x, "night;");
        Kit.due("none", x.told(10), 0);
        Kit.work(x, "join 0 0;");
        x.work(0);
        Kit.due("none by no steps", x.told(10), 0);
    }

    static void stepsRefusedStayBehindAFault() {
        IdeaMousers x = Kit.withHouse(Kit.HOUSE);
        Kit.work(x, "join 0 0;");
        Kit.work(x, "join 0 0;join 0 0;x");
        Kit.due("still one", x.told(10), 1);
        Kit.house(x, "x");
        Kit.due("still one", x.told(10), 1);
    }

    static void stepsRefusedAre0BehindUndo() {
        IdeaMousers x = Kit.withHouse(Kit.HOUSE);
        Kit.work(x, "join 0 0;");
        Kit.work(x, "join 0 0;");
        x.undo();
        Kit.due("though the one ahead of it refused one, too", x.told(10), 0);
    }

    static void stepsRefusedAre0BehindRestore() {
        IdeaMousers x = Kit.withHouse(Kit.HOUSE);
        Kit.work(x, "join 0 0;");
        x.image();
        Kit.due("an image leaves it", x.told(10), 1);
        x.restore();
        Kit.due("restored", x.told(10), 0);
    }

    static void stepsRefusedStayBehindARestoreOfNothing() {
        IdeaMousers x = Kit.withHouse(Kit.HOUSE);
        Kit.work(x, "join 0 0;");
        Kit.due("restore", x.restore(), -1);
        Kit.due("still one", x.told(10), 1);
    }

    static void stepsRefusedAre0BehindAHouse() {
        IdeaMousers x = Kit.withHouse(Kit.HOUSE);
        Kit.work(x, "join 0 0;");
        Kit.house(x, Kit.HOUSE);
        Kit.due("no work is there", x.told(10), 0);
    }

    static void sizeOfAllThatLiveTogether() {
        IdeaMousers x = Kit.withHouse(Kit.HOUSE);
        Kit.due("all", x.told(11), 41);
        Kit.work(x, "night;");
        Kit.due("but the taken one", x.told(11), 7 + 15 + 15);
        IdeaMousers y = Kit.withHouse(full());
        Kit.due("eight of 60", y.told(11), 480);
        Kit.work(y, "again 60 [again 60 [night;];];");
        Kit.due("eight of 999", y.told(11), 8 * 999);
    }

    static void asksOnly() {
        for (int what = 0; what <= 11; what++) {
            int which = what;
            Kit.asksOnly("told(" + what + ")", x -> x.told(which));
        }
    }
}
