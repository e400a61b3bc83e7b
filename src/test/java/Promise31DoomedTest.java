/** Promise 31: schemes that would be taken by a night now. */
public final class Promise31DoomedTest {
    public static void main(String[] args) {
        Kit.run(Promise31DoomedTest.class);
    }

    static void byTheSizeBehindTheGrowth() {
        Kit.due("20 of 20", Kit.withHouse("room 20;scheme 0 10 0;cat 0 10;").doomed(), 0);
        Kit.due("21 of 20", Kit.withHouse("room 20;scheme 0 10 1;cat 0 10;").doomed(), 1);
    }

    static void oneForEachCat() {
        Kit.due("the greater one", Kit.withHouse("room 0;scheme 0 1 0;scheme 0 2 0;cat 0 0;").doomed(), 2);
        Kit.due("both", Kit.withHouse("room 0;scheme 0 1 0;scheme 0 2 0;cat 0 0;cat 0 0;").doomed(), 3);
        Kit.due("of alike ones the first", Kit.withHouse("room 0;scheme 0 2 0;scheme 0 2 0;cat 0 0;").doomed(), 1);
    }

    static void noneWithoutCats() {
        Kit.due("no cats", Kit.withHouse("room 0;scheme 0 1 0;").doomed(), 0);
        Kit.due("no schemes", Kit.withHouse("room 0;cat 0 0;").doomed(), 0);
    }

    static void thoseOnTheMatAreNot() {
        IdeaMousers x = Kit.withHouse(Kit.HOUSE);
        Kit.due("the second", x.doomed(), 2);
        Kit.work(x, "night;");
        Kit.due("the first", x.doomed(), 1);
        Kit.work(x, "night;");
        Kit.due("none", x.doomed(), 0);
    }

    static void byTheLaw() {
        IdeaMousers x = Kit.withHouse(Kit.HOUSE);
        Kit.law(x, "6");
        Kit.due("each cat that sees one", x.doomed(), 6);
    }

    static void atNight900Too() {
        IdeaMousers x = Kit.withHouse("room 1;scheme 0 1 0;cat 0 0;");
        for (int i = 0; i < 5; i++) {
            Kit.work(x, "again 60 [again 60 [night;];];");
        }
        Kit.law(x, "night/900");
        Kit.due("it would be taken", x.doomed(), 1);
    }

    static void asksOnly() {
        Kit.asksOnly("doomed()", x -> x.doomed());
    }
}
