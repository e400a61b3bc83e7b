/** Promise 33: cats that see none. */
public final class Promise33HungryTest {
    public static void main(String[] args) {
        Kit.run(Promise33HungryTest.class);
    }

    static void thoseThatSeeNone() {
        Kit.due("two of three", Kit.withHouse(Kit.HOUSE).hungry(), 6);
        Kit.due("no cats", Kit.withHouse("room 0;scheme 0 1 0;").hungry(), 0);
        Kit.due("no schemes", Kit.withHouse("room 0;" + "cat 0 0;".repeat(5)).hungry(), 31);
    }

    static void byTheSizeOfNow() {
        Kit.due("20 of 20", Kit.withHouse("room 20;scheme 0 10 9;cat 0 10;").hungry(), 1);
        Kit.due("21 of 20", Kit.withHouse("room 20;scheme 0 11 0;cat 0 10;").hungry(), 0);
    }

    static void manyMaySeeOne() {
        Kit.due("none is hungry", Kit.withHouse("room 0;scheme 0 1 0;cat 0 0;cat 0 0;cat 0 0;").hungry(), 0);
    }

    static void whatDoesNotLiveIsNotSeen() {
        IdeaMousers x = Kit.withHouse("room 0;scheme 0 1 0;cat 0 0;");
        Kit.work(x, "night;");
        Kit.due("it took it", x.hungry(), 1);
        IdeaMousers y = Kit.withHouse("room 0;room 60;way 0 1;scheme 0 1 0;scheme 0 1 0;cat 0 0;");
        Kit.work(y, "join 0 1;hide 0 1;");
        Kit.due("a joined one", y.hungry(), 1);
    }

    static void asksOnly() {
        Kit.asksOnly("hungry()", x -> x.hungry());
    }
}
