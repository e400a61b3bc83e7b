/** Promises 40 to 43: images, refused calls, counts. */
public final class ImageTest {
    public static void main(String[] args) {
        images();
        imagesKeepWorks();
        imagesKeepNoTexts();
        fullPast();
        statuses();
        counts();
        Kit.end("ImageTest");
    }

    private static void images() {
        IdeaMousers x = Kit.withHouse(Kit.HOUSE);
        Kit.due("none", x.restore(), -1);
        Kit.due("first", x.image(), 1);
        Kit.work(x, "night;shut 2;call 2 0;");
        Kit.due("second", x.image(), 2);
        Kit.work(x, "join 3 3;join 2 2;night;shut 1;");
        Kit.due("third", x.image(), 3);
        Kit.due("there are 3", x.image(), -1);
        Kit.due("refused by the latest work", x.told(10), 2);
        Kit.due("latest", x.restore(), 2);
        Kit.due("none refused behind it", x.told(10), 0);
        Kit.due("night", x.told(4), 2);
        Kit.due("second again", x.restore(), 1);
        Kit.due("night", x.told(4), 1);
        Kit.due("shut", x.told(8), 4);
        Kit.due("mat", x.told(6), 2);
        Kit.due("took", x.cat(0, 2), 1);
        Kit.due("when", x.scheme(1, 4), 0);
        Kit.due("cat", x.cat(2, 0), 0);
        Kit.due("first again", x.restore(), 0);
        Kit.due("all live", x.told(5), 15);
        Kit.due("sizes", x.told(11), 41);
        Kit.due("took none", x.cat(0, 2), 0);
        Kit.due("cat", x.cat(2, 0), 1);
        Kit.work(x, "join 0 0;");
        Kit.due("gone", x.restore(), -1);
        Kit.due("nothing was restored", x.told(10), 1);
    }

    private static void imagesKeepWorks() {
        IdeaMousers x = Kit.withHouse(Kit.HOUSE);
        Kit.work(x, "night;");
        Kit.work(x, "shut 0;");
        x.image();
        Kit.due("undo", x.undo(), 1);
        Kit.due("undo", x.undo(), 0);
        Kit.work(x, "shut 3;");
        Kit.due("restore", x.restore(), 0);
        Kit.due("works of the image", x.count(2), 2);
        Kit.due("shut", x.told(8), 1);
        Kit.due("undo the second", x.undo(), 1);
        Kit.due("open", x.told(8), 0);
        Kit.due("night", x.told(4), 1);
        Kit.due("undo the first", x.undo(), 0);
        Kit.due("all live", x.told(5), 15);
    }

    private static void imagesKeepNoTexts() {
        IdeaMousers x = Kit.withHouse(Kit.HOUSE);
        x.image();
        Kit.law(x, "9");
        Kit.book(x, "0 1;");
        Kit.put(x, "night;");
        Kit.illegal("refused", () -> x.told(99));
        x.restore();
        Kit.due("law stays", x.more(0), 9);
        Kit.due("book stays", x.told(9), 1);
        Kit.due("tape stays", x.count(1), 20);
        Kit.due("refusals stay", x.status(1), 1);
    }

    private static void fullPast() {
        IdeaMousers x = Kit.withHouse("room 60;scheme 0 1 0;");
        for (int i = 0; i < 16; i++) {
            Kit.work(x, "feed 0 " + (i + 1) + ";");
        }
        for (int i = 1; i <= 3; i++) {
            Kit.due("image of 16 works", x.image(), i);
        }
        for (int round = 2; round >= 0; round--) {
            for (int left = 15; left >= 0; left--) {
                Kit.due("undo", x.undo(), left);
                Kit.due("size", x.scheme(0, 1), 1 + left * (left + 1) / 2);
            }
            Kit.due("restore", x.restore(), round);
            Kit.due("size", x.scheme(0, 1), 1 + 136);
            Kit.due("full", Kit.work(x, "night;"), -20);
        }
    }

    private static void statuses() {
        IdeaMousers x = Kit.withHouse(Kit.HOUSE);
        Kit.missing("no such room, ahead of others", () -> x.room(9, 9));
        Kit.missing("no such cat", () -> x.prey(9));
        Kit.illegal("what", () -> x.hunt(9));
        Kit.due("missing", x.status(0), 2);
        Kit.due("illegal", x.status(1), 1);
        Kit.due("others", x.status(2), -1);
        Kit.due("others", x.status(-1), -1);
        x.image();
        Kit.illegal("length", () -> x.house(99));
        x.restore();
        Kit.house(x, "room 0;");
        Kit.due("missing stays", x.status(0), 2);
        Kit.due("illegal stays", x.status(1), 2);
        Kit.work(x, "hide 0 0;");
        x.undo();
        Kit.due("faults and -1 are no refusals", x.status(1), 2);
    }

    private static void counts() {
        IdeaMousers x = Kit.withHouse(Kit.HOUSE);
        x.image();
        x.image();
        Kit.work(x, "");
        Kit.work(x, "night;");
        Kit.work(x, "night;");
        x.feed(1, 2, 3, 4, 5);
        Kit.due("images", x.count(0), 2);
        Kit.due("bytes", x.count(1), 20);
        Kit.due("works", x.count(2), 3);
        Kit.due("others", x.count(3), -1);
        Kit.due("others", x.count(-1), -1);
    }
}
