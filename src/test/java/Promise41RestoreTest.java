/** Promise 41: all is as in the latest image, which is gone. */
public final class Promise41RestoreTest {
    public static void main(String[] args) {
        Kit.run(Promise41RestoreTest.class);
    }

    private static void withoutImages(IdeaMousers x) {
        Kit.house(x, Kit.HOUSE);
        Kit.law(x, "2");
        Kit.book(x, "0 1;");
        Kit.work(x, "night;join 0 0;");
        Kit.law(x, "1+x");
        Kit.put(x, "night;");
    }

    static void minus1WithoutImages() {
        Kit.changesNothing("restore", Promise41RestoreTest::withoutImages, x -> x.restore(), -1);
        Kit.changesNothing("once too often", x -> { withoutImages(x); x.image(); x.restore(); }, x -> x.restore(), -1);
        Kit.due("in a new object", new IdeaMousers().restore(), -1);
    }

    static void answersHowManyAreLeft() {
        IdeaMousers x = Kit.withHouse(Kit.HOUSE);
        for (int i = 0; i < 3; i++) {
            x.image();
        }
        for (int left = 2; left >= 0; left--) {
            Kit.due("restore", x.restore(), left);
            Kit.due("count", x.count(0), left);
        }
        Kit.due("none is left", x.restore(), -1);
    }

    static void theLatestFirst() {
        IdeaMousers x = Kit.withHouse(Kit.HOUSE);
        x.image();
        Kit.work(x, "night;shut 2;call 2 0;");
        x.image();
        Kit.work(x, "night;shut 1;");
        x.image();
        Kit.work(x, "night;");
        Kit.due("latest", x.restore(), 2);
        Kit.due("night", x.told(4), 2);
        Kit.due("second", x.restore(), 1);
        Kit.due("night", x.told(4), 1);
        Kit.due("shut", x.told(8), 4);
        Kit.due("mat", x.told(6), 2);
        Kit.due("took", x.cat(0, 2), 1);
        Kit.due("when", x.scheme(1, 4), 0);
        Kit.due("cat", x.cat(2, 0), 0);
        Kit.due("first", x.restore(), 0);
        Kit.sameAs("as it was at first", x, y -> Kit.house(y, Kit.HOUSE));
    }

    static void takesBackAnUndo() {
        IdeaMousers x = Kit.withHouse(Kit.HOUSE);
        Kit.work(x, "night;");
        x.image();
        x.undo();
        Kit.due("night", x.told(4), 0);
        Kit.due("restore", x.restore(), 0);
        Kit.due("night", x.told(4), 1);
        Kit.due("works", x.count(2), 1);
        Kit.due("undo", x.undo(), 0);
        Kit.due("night", x.told(4), 0);
    }

    static void makesRoomForWorks() {
        IdeaMousers x = Kit.withHouse(Kit.HOUSE);
        x.image();
        for (int i = 0; i < 16; i++) {
            x.work(0);
        }
        Kit.due("full", x.work(0), -20);
        Kit.due("restore", x.restore(), 0);
        Kit.due("works", x.count(2), 0);
        Kit.due("a work", x.work(0), 0);
    }

    static void leavesFaultLawBookAndTape() {
        IdeaMousers x = Kit.made(Kit::richWithTape);
        Kit.due("restore", x.restore(), 1);
        Kit.due("fault", x.fault(), 2);
        Kit.due("law", x.would(0, 1, 0, 2, 3, 0, 0), 6);
        Kit.due("book", x.told(9), 1);
        Kit.due("tape", x.count(1), 20);
        Kit.due("works of the image", x.count(2), 2);
    }

    static void noneIsThereBehindAHouse() {
        IdeaMousers x = Kit.made(Kit::rich);
        Kit.house(x, "room 0;");
        Kit.due("restore", x.restore(), -1);
    }

    static void imagesStayBehindAHouseWithAFault() {
        IdeaMousers x = Kit.made(Kit::rich);
        Kit.house(x, "room 61;");
        Kit.due("restore", x.restore(), 1);
    }
}
