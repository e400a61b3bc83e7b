/** Promise 10: what is told of a room. */
public final class Promise10RoomTest {
    public static void main(String[] args) {
        Kit.run(Promise10RoomTest.class);
    }

    static void noSuchRoom() {
        Kit.missing("room(-1, 0)", x -> x.room(-1, 0));
        Kit.missing("room(4, 0)", x -> x.room(4, 0));
        Kit.missing("the least number", x -> x.room(Integer.MIN_VALUE, 0));
        Kit.missing("the greatest number", x -> x.room(Integer.MAX_VALUE, 0));
        Kit.missing("a ninth room", x -> Kit.house(x, "room 0;".repeat(8)), x -> x.room(8, 0));
    }

    static void noSuchRoomAheadOfAnotherWhat() {
        Kit.missing("room(4, 4)", x -> x.room(4, 4));
        Kit.missing("room(-1, -1)", x -> x.room(-1, -1));
    }

    static void anotherWhatIsRefused() {
        Kit.illegal("room(3, 4)", x -> x.room(3, 4));
        Kit.illegal("room(0, -1)", x -> x.room(0, -1));
        Kit.illegal("the greatest number", x -> x.room(0, Integer.MAX_VALUE));
        Kit.illegal("the least number", x -> x.room(0, Integer.MIN_VALUE));
    }

    static void theLastRoom() {
        IdeaMousers x = Kit.withHouse("room 0;".repeat(7) + "room 60;");
        Kit.due("hide", x.room(7, 0), 60);
    }

    static void eachRoomOfAHouse() {
        IdeaMousers x = Kit.withHouse(Kit.HOUSE);
        int[][] now = {{10, 3, 1, 6}, {20, 4, 4, 5}, {0, 0, 2, 11}, {30, 8, 0, 4}};
        for (int room = 0; room < 4; room++) {
            for (int what = 0; what < 4; what++) {
                Kit.due("room(" + room + ", " + what + ")", x.room(room, what), now[room][what]);
            }
        }
    }

    static void schemesThatLiveThere() {
        IdeaMousers x = Kit.withHouse(Kit.HOUSE);
        Kit.work(x, "night;");
        Kit.due("a taken one is not there", x.room(0, 1), 1);
        Kit.work(x, "hide 0 2;hide 3 2;join 3 0;");
        Kit.due("a joined one is not there", x.room(2, 1), 8);
        Kit.due("those that hid elsewhere are not", x.room(0, 1), 0);
    }

    static void catsThere() {
        IdeaMousers x = Kit.withHouse("room 0;room 0;way 0 1;" + "cat 1 0;".repeat(5));
        Kit.due("all five", x.room(1, 2), 31);
        Kit.work(x, "call 4 0;");
        Kit.due("four", x.room(1, 2), 15);
        Kit.due("the last", x.room(0, 2), 16);
    }

    static void roomsBesideByAnOpenWay() {
        IdeaMousers x = Kit.withHouse(Kit.HOUSE);
        Kit.work(x, "shut 1;");
        Kit.due("one is shut", x.room(1, 3), 1);
        Kit.due("from the other side", x.room(2, 3), 9);
        Kit.work(x, "shut 0;");
        Kit.due("all are shut", x.room(1, 3), 0);
        Kit.work(x, "shut 1;");
        Kit.due("open again", x.room(1, 3), 4);
    }

    static void roomsBesideByOneOfTwoWays() {
        IdeaMousers x = Kit.withHouse("room 0;room 0;way 0 1;way 1 0;");
        Kit.work(x, "shut 0;");
        Kit.due("the other one is open", x.room(0, 3), 2);
        Kit.work(x, "shut 1;");
        Kit.due("both are shut", x.room(0, 3), 0);
    }

    static void soManyAsTheHouseHas() {
        Kit.hasSoMany("room(.., 3)", 5, (x, room) -> x.room(room, 3));
    }

    static void asksOnly() {
        Kit.asksOnly("room(2, 3)", x -> x.room(2, 3));
        Kit.asksOnly("room(0, 1)", x -> x.room(0, 1));
        Kit.asksOnly("room(3, 2)", x -> x.room(3, 2));
    }
}
