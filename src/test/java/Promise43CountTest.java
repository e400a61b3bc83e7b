/** Promise 43: how many images, bytes and works there are. */
public final class Promise43CountTest {
    public static void main(String[] args) {
        Kit.run(Promise43CountTest.class);
    }

    static void noneForOthers() {
        int[] others = {-1, 3, 4, Integer.MIN_VALUE, Integer.MAX_VALUE};
        for (int what : others) {
            Kit.changesNothing("count(" + what + ")", Kit::richWithTape, x -> x.count(what), -1);
        }
    }

    static void images() {
        IdeaMousers x = Kit.withHouse(Kit.HOUSE);
        Kit.due("at first", x.count(0), 0);
        for (int i = 1; i <= 4; i++) {
            x.image();
            Kit.due("images", x.count(0), Math.min(3, i));
        }
        x.restore();
        Kit.due("images", x.count(0), 2);
        Kit.house(x, "room 0;");
        Kit.due("behind a house", x.count(0), 0);
    }

    static void bytes() {
        IdeaMousers x = new IdeaMousers();
        Kit.due("at first", x.count(1), 0);
        for (int i = 1; i <= 31; i++) {
            x.feed(0, 0, 0, 0, 0);
            Kit.due("bytes", x.count(1), Math.min(600, 20 * i));
        }
        x.book(0);
        Kit.due("behind a text", x.count(1), 0);
    }

    static void works() {
        IdeaMousers x = Kit.withHouse("room 0;");
        Kit.due("at first", x.count(2), 0);
        for (int i = 1; i <= 17; i++) {
            x.work(0);
            Kit.due("works", x.count(2), Math.min(16, i));
        }
        x.undo();
        Kit.due("behind undo", x.count(2), 15);
        Kit.work(x, "x");
        Kit.due("behind a fault", x.count(2), 15);
        x.house(0);
        Kit.due("behind a house", x.count(2), 0);
    }

    static void worksOfTheImage() {
        IdeaMousers x = Kit.withHouse("room 0;");
        x.work(0);
        x.image();
        x.work(0);
        x.work(0);
        Kit.due("works", x.count(2), 3);
        x.restore();
        Kit.due("works", x.count(2), 1);
    }

    static void asksOnly() {
        Kit.asksOnly("count(0)", x -> x.count(0));
        Kit.asksOnly("count(1)", x -> x.count(1));
        Kit.asksOnly("count(2)", x -> x.count(2));
    }
}
