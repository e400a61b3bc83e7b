/** Promise 30: schemes that live and are seen by no cat. */
public final class Promise30SafeTest {
    public static void main(String[] args) {
        Kit.run(Promise30SafeTest.class);
    }

    static void seenByNoCat() {
        Kit.due("all but the second", Kit.withHouse(Kit.HOUSE).safe(), 13);
        Kit.due("no cats", Kit.withHouse("room 0;" + "scheme 0 1 0;".repeat(8)).safe(), 255);
        Kit.due("no schemes", Kit.withHouse("room 0;cat 0 0;").safe(), 0);
    }

    static void byTheSizeOfNow() {
        // It would be seen in a night now, but is not seen now.
        Kit.due("20 of 20", Kit.withHouse("room 20;scheme 0 10 1;cat 0 10;").safe(), 1);
        Kit.due("21 of 20", Kit.withHouse("room 20;scheme 0 11 1;cat 0 10;").safe(), 0);
    }

    static void oneCatIsEnough() {
        Kit.due("by the last of five", Kit.withHouse("room 20;scheme 0 5 0;" + "cat 0 0;".repeat(4) + "cat 0 16;").safe(), 0);
        Kit.due("by none of five", Kit.withHouse("room 20;scheme 0 5 0;" + "cat 0 0;".repeat(4) + "cat 0 15;").safe(), 1);
    }

    static void aCatSeesMoreThanItCanTake() {
        Kit.due("both are seen", Kit.withHouse("room 0;scheme 0 1 0;scheme 0 1 0;cat 0 0;").safe(), 0);
    }

    static void thoseThatLive() {
        IdeaMousers x = Kit.withHouse(Kit.HOUSE);
        Kit.work(x, "night;");
        Kit.due("a taken one is not", x.safe(), 12);
        IdeaMousers y = Kit.withHouse("room 60;scheme 0 1 0;scheme 0 1 0;");
        Kit.work(y, "join 0 1;");
        Kit.due("a joined one is not", y.safe(), 1);
    }

    static void asksOnly() {
        Kit.asksOnly("safe()", x -> x.safe());
    }
}
