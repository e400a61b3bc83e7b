/** Promise 28: the greatest scheme that lives. */
public final class Promise28GreatestTest {
    public static void main(String[] args) {
        Kit.run(Promise28GreatestTest.class);
    }

    private static void is(IdeaMousers x, int scheme, int size) {
        Kit.due("which", x.greatest(0), scheme);
        Kit.due("size", x.greatest(1), size);
    }

    static void anotherWhatIsRefused() {
        Kit.illegal("-1", x -> x.greatest(-1));
        Kit.illegal("2", x -> x.greatest(2));
        Kit.illegal("the least number", x -> x.greatest(Integer.MIN_VALUE));
        Kit.illegal("the greatest number", x -> x.greatest(Integer.MAX_VALUE));
    }

    static void ofAlikeOnesTheFirst() {
        is(Kit.withHouse("room 60;scheme 0 5 0;scheme 0 7 0;scheme 0 7 0;"), 1, 7);
        is(Kit.withHouse("room 60;scheme 0 7 0;scheme 0 7 0;"), 0, 7);
    }

    static void theLastOne() {
        is(Kit.withHouse("room 60;" + "scheme 0 5 0;".repeat(7) + "scheme 0 6 0;"), 7, 6);
    }

    static void inWhateverRoom() {
        is(Kit.withHouse(Kit.HOUSE), 2, 15);
    }

    static void ofThoseThatLive() {
        IdeaMousers x = Kit.withHouse("room 60;scheme 0 5 0;scheme 0 9 0;scheme 0 7 0;");
        Kit.work(x, "join 2 1;join 2 0;");
        is(x, 2, 21);
        IdeaMousers y = Kit.withHouse("room 0;scheme 0 5 0;scheme 0 9 0;cat 0 0;");
        Kit.work(y, "night;");
        is(y, 0, 5);
    }

    static void noneIfNoneLives() {
        IdeaMousers x = Kit.withHouse("room 0;scheme 0 5 0;cat 0 0;");
        Kit.work(x, "night;");
        is(x, -1, -1);
        is(Kit.withHouse("room 0;"), -1, -1);
    }

    static void asksOnly() {
        Kit.asksOnly("greatest(0)", x -> x.greatest(0));
        Kit.asksOnly("greatest(1)", x -> x.greatest(1));
    }
}
