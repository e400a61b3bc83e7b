/** Promise 34: the room where most schemes live. */
public final class Promise34CrowdTest {
    public static void main(String[] args) {
        Kit.run(Promise34CrowdTest.class);
    }

    private static void is(IdeaMousers x, int room, int many) {
        Kit.due("which", x.crowd(0), room);
        Kit.due("how many", x.crowd(1), many);
    }

    static void anotherWhatIsRefused() {
        Kit.illegal("-1", x -> x.crowd(-1));
        Kit.illegal("2", x -> x.crowd(2));
        Kit.illegal("the least number", x -> x.crowd(Integer.MIN_VALUE));
        Kit.illegal("the greatest number", x -> x.crowd(Integer.MAX_VALUE));
    }

    static void whereMostLive() {
        is(Kit.withHouse(Kit.HOUSE), 0, 2);
        is(Kit.withHouse("room 0;".repeat(8) + "scheme 7 1 0;".repeat(8)), 7, 8);
    }

    static void inALateRoomOfFewSchemes() {
        is(Kit.withHouse("room 0;".repeat(8) + "scheme 0 1 0;scheme 7 1 0;scheme 7 1 0;"), 7, 2);
        is(Kit.withHouse("room 0;room 0;" + "scheme 0 1 0;".repeat(3) + "scheme 1 1 0;".repeat(5)), 1, 5);
    }

    static void ofAlikeOnesTheFirst() {
        is(Kit.withHouse("room 0;room 0;room 0;scheme 2 1 0;scheme 1 1 0;"), 1, 1);
        IdeaMousers x = Kit.withHouse(Kit.HOUSE);
        Kit.work(x, "night;");
        is(x, 0, 1);
    }

    static void thoseThatLive() {
        IdeaMousers x = Kit.withHouse("room 0;room 0;scheme 0 1 0;scheme 0 1 0;scheme 0 1 0;scheme 1 1 0;scheme 1 1 0;");
        is(x, 0, 3);
        Kit.work(x, "join 0 1;");
        is(x, 0, 2);
        Kit.work(x, "join 0 2;");
        is(x, 1, 2);
    }

    static void noneIfNoneLives() {
        IdeaMousers x = Kit.withHouse("room 0;scheme 0 5 0;cat 0 0;");
        Kit.work(x, "night;");
        is(x, -1, -1);
        is(Kit.withHouse("room 0;"), -1, -1);
    }

    static void asksOnly() {
        Kit.asksOnly("crowd(0)", x -> x.crowd(0));
        Kit.asksOnly("crowd(1)", x -> x.crowd(1));
    }
}
