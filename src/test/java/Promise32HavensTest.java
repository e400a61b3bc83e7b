/** Promise 32: rooms in which a scheme of such size would be seen by no cat. */
public final class Promise32HavensTest {
    public static void main(String[] args) {
        Kit.run(Promise32HavensTest.class);
    }

    static void sizesAre1To999() {
        Kit.illegal("0", x -> x.havens(0));
        Kit.illegal("1000", x -> x.havens(1000));
        Kit.illegal("-1", x -> x.havens(-1));
        Kit.illegal("the least number", x -> x.havens(Integer.MIN_VALUE));
        Kit.illegal("the greatest number", x -> x.havens(Integer.MAX_VALUE));
        IdeaMousers x = Kit.withHouse("room 1;room 60;room 0;cat 0 0;cat 1 20;");
        Kit.due("1", x.havens(1), 7);
        Kit.due("999", x.havens(999), 4);
    }

    static void theLastSizeThatHidesInEachRoom() {
        IdeaMousers x = Kit.withHouse(Kit.HOUSE);
        // Room 0 shows from 7 on, room 1 from 21 on, room 2 always; room 3 has no cat.
        Kit.due("6", x.havens(6), 11);
        Kit.due("7", x.havens(7), 10);
        Kit.due("20", x.havens(20), 10);
        Kit.due("21", x.havens(21), 8);
    }

    static void aRoomWithoutCatsIsOne() {
        Kit.due("eight rooms", Kit.withHouse("room 0;".repeat(8)).havens(999), 255);
        Kit.due("one has a cat", Kit.withHouse("room 0;".repeat(8) + "cat 7 0;").havens(999), 127);
    }

    static void noneWithoutRooms() {
        Kit.due("no rooms", new IdeaMousers().havens(1), 0);
    }

    static void byTheBestNoseThere() {
        IdeaMousers x = Kit.withHouse("room 30;cat 0 5;cat 0 20;cat 0 0;");
        Kit.due("10", x.havens(10), 1);
        Kit.due("11", x.havens(11), 0);
    }

    static void whereTheCatsAreNow() {
        IdeaMousers x = Kit.withHouse("room 0;room 0;way 0 1;cat 0 0;");
        Kit.due("ahead", x.havens(1), 2);
        Kit.work(x, "call 0 1;");
        Kit.due("behind", x.havens(1), 1);
    }

    static void asksOnly() {
        Kit.asksOnly("havens(1)", x -> x.havens(1));
        Kit.asksOnly("havens(999)", x -> x.havens(999));
    }
}
