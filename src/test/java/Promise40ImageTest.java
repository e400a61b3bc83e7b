/** Promise 40: an image of all that work changes. */
public final class Promise40ImageTest {
    public static void main(String[] args) {
        Kit.run(Promise40ImageTest.class);
    }

    private static void three(IdeaMousers x) {
        Kit.house(x, "room 60;scheme 0 1 0;scheme 0 1 0;");
        for (int i = 0; i < 3; i++) {
            Kit.work(x, "feed 0 1;join 1 1;");
            x.image();
        }
        Kit.work(x, "feed 0 9;join 1 1;");
    }

    static void answersHowManyThereAre() {
        IdeaMousers x = Kit.withHouse(Kit.HOUSE);
        for (int many = 1; many <= 3; many++) {
            Kit.due("image", x.image(), many);
            Kit.due("count", x.count(0), many);
        }
    }

    static void minus1IfThereAre3() {
        Kit.changesNothing("a fourth", Promise40ImageTest::three, x -> x.image(), -1);
        IdeaMousers x = Kit.made(Promise40ImageTest::three);
        Kit.due("a fourth", x.image(), -1);
        Kit.due("restored is the third", x.restore(), 2);
        Kit.due("size", x.scheme(0, 1), 4);
        Kit.due("there is room again", x.image(), 3);
    }

    static void changesNothingElse() {
        IdeaMousers x = Kit.made(Kit::richWithTape);
        Kit.due("image", x.image(), 3);
        Kit.due("fault", x.fault(), 2);
        Kit.due("steps refused", x.told(10), 1);
        Kit.due("works", x.count(2), 3);
        Kit.due("tape", x.count(1), 20);
        Kit.due("restore", x.restore(), 2);
        IdeaMousers y = Kit.made(Kit::richWithTape);
        // Behind restore no steps are refused, so the other one is restored from an image, too.
        y.image();
        y.restore();
        Kit.dueText("all is as it was", Kit.all(x), Kit.all(y));
        Kit.dueText("but told(10)", Kit.all(Kit.made(Promise40ImageTest::quiet)), Kit.all(Kit.made(Promise40ImageTest::quietAgain)));
    }

    private static void quiet(IdeaMousers x) {
        Kit.rich(x);
        x.work(0);
    }

    private static void quietAgain(IdeaMousers x) {
        quiet(x);
        x.image();
        x.restore();
    }

    static void ofEverythingThatWorkChanges() {
        String[] works = {"hide 0 1;", "call 0 1;", "feed 0 9;", "join 0 1;", "shut 2;", "night;", "again 4 [night;];"};
        for (String work : works) {
            IdeaMousers x = Kit.withHouse(Kit.HOUSE);
            x.image();
            Kit.work(x, work);
            Kit.due("restore behind <" + work + ">", x.restore(), 0);
            Kit.sameAs("as ahead of <" + work + ">", x, y -> Kit.house(y, Kit.HOUSE));
        }
    }

    static void ofWorksThatCanBeUndone() {
        IdeaMousers x = Kit.withHouse(Kit.HOUSE);
        Kit.work(x, "night;");
        Kit.work(x, "shut 0;");
        x.image();
        Kit.due("undo", x.undo(), 1);
        Kit.due("undo", x.undo(), 0);
        Kit.work(x, "shut 3;");
        Kit.due("restore", x.restore(), 0);
        Kit.due("works of the image", x.count(2), 2);
        Kit.due("shut", x.told(8), 1);
        Kit.due("undo the second", x.undo(), 1);
        Kit.due("open", x.told(8), 0);
        Kit.due("night", x.told(4), 1);
        Kit.due("undo the first", x.undo(), 0);
        Kit.due("all live", x.told(5), 15);
    }

    static void ofWorksThoughOthersTookTheirPlace() {
        IdeaMousers x = Kit.withHouse(Kit.HOUSE);
        Kit.work(x, "night;");
        Kit.work(x, "shut 0;");
        x.image();
        x.undo();
        x.undo();
        Kit.work(x, "shut 3;");
        x.image();
        Kit.work(x, "feed 3 9;");
        Kit.work(x, "night;");
        x.undo();
        Kit.due("the second image", x.restore(), 1);
        Kit.due("works", x.count(2), 1);
        Kit.due("undo", x.undo(), 0);
        Kit.due("open", x.told(8), 0);
        Kit.work(x, "shut 1;");
        Kit.work(x, "shut 2;");
        Kit.work(x, "night;");
        Kit.due("the first image", x.restore(), 0);
        Kit.due("works", x.count(2), 2);
        Kit.due("shut", x.told(8), 1);
        Kit.due("undo", x.undo(), 1);
        Kit.due("night", x.told(4), 1);
        Kit.due("open", x.told(8), 0);
        Kit.due("undo", x.undo(), 0);
        Kit.due("night", x.told(4), 0);
    }

    static void ofSixteenWorks() {
        IdeaMousers x = Kit.withHouse("room 60;scheme 0 1 0;");
        for (int i = 0; i < 16; i++) {
            Kit.work(x, "feed 0 " + (i + 1) + ";");
        }
        for (int i = 1; i <= 3; i++) {
            Kit.due("image of 16 works", x.image(), i);
        }
        for (int round = 2; round >= 0; round--) {
            for (int left = 15; left >= 0; left--) {
                Kit.due("undo", x.undo(), left);
                Kit.due("size", x.scheme(0, 1), 1 + left * (left + 1) / 2);
            }
            Kit.due("restore", x.restore(), round);
            Kit.due("size", x.scheme(0, 1), 1 + 136);
            Kit.due("full", Kit.work(x, "night;"), -20);
        }
    }

    static void notOfLawBookAndTape() {
        IdeaMousers x = Kit.withHouse(Kit.HOUSE);
        x.image();
        Kit.law(x, "9");
        Kit.book(x, "0 1;");
        Kit.put(x, "night;");
        x.restore();
        Kit.due("law stays", x.more(0), 9);
        Kit.due("book stays", x.told(9), 1);
        Kit.due("tape stays", x.count(1), 20);
    }

    static void ofAHouseWithoutClauses() {
        Kit.due("image", new IdeaMousers().image(), 1);
    }
}
