/** Promise 11: what is told of a way. */
public final class Promise11WayTest {
    public static void main(String[] args) {
        Kit.run(Promise11WayTest.class);
    }

    static void noSuchWay() {
        Kit.missing("way(-1, 0)", x -> x.way(-1, 0));
        Kit.missing("way(4, 0)", x -> x.way(4, 0));
        Kit.missing("the least number", x -> x.way(Integer.MIN_VALUE, 0));
        Kit.missing("the greatest number", x -> x.way(Integer.MAX_VALUE, 0));
        Kit.missing("a 13th way", x -> Kit.house(x, "room 0;room 0;" + "way 0 1;".repeat(12)), x -> x.way(12, 0));
    }

    static void noSuchWayAheadOfAnotherWhat() {
        Kit.missing("way(4, 3)", x -> x.way(4, 3));
        Kit.missing("way(-1, -1)", x -> x.way(-1, -1));
    }

    static void anotherWhatIsRefused() {
        Kit.illegal("way(3, 3)", x -> x.way(3, 3));
        Kit.illegal("way(0, -1)", x -> x.way(0, -1));
        Kit.illegal("the greatest number", x -> x.way(0, Integer.MAX_VALUE));
        Kit.illegal("the least number", x -> x.way(0, Integer.MIN_VALUE));
    }

    static void aAndBAsTold() {
        IdeaMousers x = Kit.withHouse(Kit.HOUSE);
        int[][] ways = {{0, 1}, {1, 2}, {2, 0}, {2, 3}};
        for (int way = 0; way < 4; way++) {
            Kit.due("A of " + way, x.way(way, 0), ways[way][0]);
            Kit.due("B of " + way, x.way(way, 1), ways[way][1]);
        }
    }

    static void twelveWaysEachWithItsOwnEnds() {
        int[][] ways = {{7, 6}, {6, 5}, {5, 4}, {4, 3}, {3, 2}, {2, 1}, {1, 0}, {7, 5}, {6, 4}, {5, 3}, {4, 2}, {3, 1}};
        StringBuilder house = new StringBuilder("room 0;".repeat(8));
        for (int[] way : ways) {
            house.append("way " + way[0] + " " + way[1] + ";");
        }
        IdeaMousers x = Kit.withHouse(house.toString());
        for (int way = 0; way < 12; way++) {
            Kit.due("A of " + way, x.way(way, 0), ways[way][0]);
            Kit.due("B of " + way, x.way(way, 1), ways[way][1]);
        }
    }

    static void shutAndOpenAgain() {
        IdeaMousers x = Kit.withHouse("room 0;room 0;" + "way 1 0;".repeat(12));
        Kit.due("open", x.way(11, 2), 0);
        Kit.work(x, "shut 11;");
        Kit.due("shut", x.way(11, 2), 1);
        Kit.due("another one", x.way(10, 2), 0);
        Kit.due("A stays", x.way(11, 0), 1);
        Kit.due("B stays", x.way(11, 1), 0);
        Kit.work(x, "shut 11;");
        Kit.due("open again", x.way(11, 2), 0);
    }

    static void soManyAsTheHouseHas() {
        Kit.hasSoMany("way(.., 2)", 6, (x, way) -> x.way(way, 2));
    }

    static void asksOnly() {
        Kit.asksOnly("way(1, 2)", x -> x.way(1, 2));
        Kit.asksOnly("way(1, 0)", x -> x.way(1, 0));
    }
}
