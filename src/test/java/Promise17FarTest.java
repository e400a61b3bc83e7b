/** Promise 17: the least number of open ways from a room to another one. */
public final class Promise17FarTest {
    private static final String LINE = "room 0;room 0;room 0;room 0;room 0;room 0;room 0;room 0;"
        + "way 0 1;way 2 1;way 2 3;way 4 3;way 4 5;way 6 5;way 6 7;";

    public static void main(String[] args) {
        Kit.run(Promise17FarTest.class);
    }

    static void noSuchRoom() {
        Kit.missing("far(-1, 0)", x -> x.far(-1, 0));
        Kit.missing("far(4, 0)", x -> x.far(4, 0));
        Kit.missing("far(0, -1)", x -> x.far(0, -1));
        Kit.missing("far(0, 4)", x -> x.far(0, 4));
        Kit.missing("far(4, 4)", x -> x.far(4, 4));
        Kit.missing("wild numbers", x -> x.far(Integer.MIN_VALUE, Integer.MAX_VALUE));
    }

    static void ofOneRoom0() {
        IdeaMousers x = Kit.withHouse(LINE);
        for (int room = 0; room < 8; room++) {
            Kit.due("room " + room, x.far(room, room), 0);
        }
    }

    static void upToSevenWays() {
        IdeaMousers x = Kit.withHouse(LINE);
        for (int room = 0; room < 8; room++) {
            Kit.due("to room " + room, x.far(0, room), room);
            Kit.due("and back", x.far(room, 0), room);
        }
    }

    static void theLeastNumber() {
        IdeaMousers x = Kit.withHouse(LINE + "way 0 4;");
        Kit.due("by the short cut", x.far(0, 7), 4);
        Kit.due("beside it", x.far(1, 4), 2);
        Kit.work(x, "shut 7;");
        Kit.due("it is shut", x.far(0, 7), 7);
    }

    static void noneByShutWays() {
        IdeaMousers x = Kit.withHouse(LINE);
        Kit.work(x, "shut 3;");
        Kit.due("there is no way", x.far(0, 7), -1);
        Kit.due("from the other side", x.far(7, 0), -1);
        Kit.due("up to it", x.far(0, 3), 3);
    }

    static void noneWithoutWays() {
        IdeaMousers x = Kit.withHouse("room 0;room 0;");
        Kit.due("no way", x.far(0, 1), -1);
    }

    static void soManyAsTheHouseHas() {
        Kit.hasSoMany("far(.., 0)", 5, (x, room) -> x.far(room, 0));
        Kit.hasSoMany("far(0, ..)", 5, (x, room) -> x.far(0, room));
    }

    static void asksOnly() {
        Kit.asksOnly("far(0, 3)", x -> x.far(0, 3));
        Kit.asksOnly("far(1, 1)", x -> x.far(1, 1));
    }
}
