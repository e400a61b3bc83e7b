/** Promise 36: rooms, its own and those beside it, where a scheme would be seen by no cat. */
public final class Promise36EscapesTest {
    public static void main(String[] args) {
        Kit.run(Promise36EscapesTest.class);
    }

    static void noSuchScheme() {
        Kit.missing("escapes(-1)", x -> x.escapes(-1));
        Kit.missing("escapes(4)", x -> x.escapes(4));
        Kit.missing("the least number", x -> x.escapes(Integer.MIN_VALUE));
        Kit.missing("the greatest number", x -> x.escapes(Integer.MAX_VALUE));
    }

    static void itsOwnAndThoseBeside() {
        IdeaMousers x = Kit.withHouse(Kit.HOUSE);
        Kit.due("own and one beside", x.escapes(0), 3);
        Kit.due("one beside", x.escapes(1), 2);
        Kit.due("own only", x.escapes(2), 2);
        Kit.due("own only", x.escapes(3), 8);
    }

    static void notThoseTwoWaysOff() {
        Kit.due("two of three", Kit.withHouse("room 0;room 0;room 0;way 0 1;way 1 2;scheme 0 1 0;").escapes(0), 3);
        Kit.due("all eight", Kit.withHouse("room 0;".repeat(8)
            + "way 0 1;way 0 2;way 0 3;way 4 0;way 5 0;way 6 0;way 7 0;scheme 0 1 0;").escapes(0), 255);
    }

    static void byOpenWaysAlone() {
        IdeaMousers x = Kit.withHouse(Kit.HOUSE);
        Kit.work(x, "shut 0;");
        Kit.due("a shut way", x.escapes(1), 0);
        Kit.due("its own", x.escapes(0), 1);
    }

    static void asGreatAsNow() {
        Kit.due("20 of 20", Kit.withHouse("room 20;scheme 0 10 9;cat 0 10;").escapes(0), 1);
        Kit.due("21 of 20", Kit.withHouse("room 20;scheme 0 11 0;cat 0 10;").escapes(0), 0);
    }

    static void zeroIfItDoesNotLive() {
        IdeaMousers x = Kit.withHouse("room 0;room 60;way 0 1;scheme 0 1 0;cat 0 0;");
        Kit.due("ahead", x.escapes(0), 2);
        Kit.work(x, "night;");
        Kit.due("taken", x.escapes(0), 0);
        IdeaMousers y = Kit.withHouse("room 60;scheme 0 1 0;scheme 0 1 0;");
        Kit.work(y, "join 0 1;");
        Kit.due("joined", y.escapes(1), 0);
    }

    static void soManyAsTheHouseHas() {
        Kit.hasSoMany("escapes", 3, (x, scheme) -> x.escapes(scheme));
    }

    static void asksOnly() {
        Kit.asksOnly("escapes(0)", x -> x.escapes(0));
        Kit.asksOnly("escapes(1)", x -> x.escapes(1));
    }
}
