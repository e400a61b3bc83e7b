/** Promise 42: how many calls were refused, by reason. */
public final class Promise42StatusTest {
    public static void main(String[] args) {
        Kit.run(Promise42StatusTest.class);
    }

    private static void refuseSome(IdeaMousers x) {
        Kit.outcome(x, y -> y.room(99, 99));
        Kit.outcome(x, y -> y.prey(99));
        Kit.outcome(x, y -> y.hunt(99));
    }

    static void noneForOthers() {
        int[] others = {-1, 2, 3, Integer.MIN_VALUE, Integer.MAX_VALUE};
        for (int what : others) {
            Kit.changesNothing("status(" + what + ")", Kit::richWithTape, x -> x.status(what), -1);
        }
    }

    static void zeroAtFirst() {
        IdeaMousers x = new IdeaMousers();
        Kit.due("missing", x.status(0), 0);
        Kit.due("illegal", x.status(1), 0);
    }

    static void countedByReason() {
        IdeaMousers x = Kit.withHouse(Kit.HOUSE);
        refuseSome(x);
        Kit.due("missing", x.status(0), 2);
        Kit.due("illegal", x.status(1), 1);
        for (int i = 0; i < 200; i++) {
            Kit.outcome(x, y -> y.told(12));
        }
        Kit.due("illegal", x.status(1), 201);
        Kit.due("missing", x.status(0), 2);
    }

    static void refusedLengthsAreCounted() {
        IdeaMousers x = new IdeaMousers();
        Kit.outcome(x, y -> y.house(1));
        Kit.outcome(x, y -> y.law(1));
        Kit.outcome(x, y -> y.work(1));
        Kit.outcome(x, y -> y.book(1));
        Kit.due("illegal", x.status(1), 4);
    }

    static void noImageKeepsIt() {
        IdeaMousers x = Kit.withHouse(Kit.HOUSE);
        x.image();
        refuseSome(x);
        x.restore();
        Kit.due("missing", x.status(0), 2);
        Kit.due("illegal", x.status(1), 1);
    }

    static void staysBehindUndoAndHouse() {
        IdeaMousers x = Kit.withHouse(Kit.HOUSE);
        Kit.work(x, "night;");
        refuseSome(x);
        x.undo();
        Kit.house(x, "room 0;");
        Kit.due("missing", x.status(0), 2);
        Kit.due("illegal", x.status(1), 1);
    }

    static void whatIsAnsweredIsNotRefused() {
        IdeaMousers x = Kit.withHouse(Kit.HOUSE);
        for (int i = 0; i < 31; i++) {
            x.feed(0, 0, 0, 0, 0);
        }
        Kit.due("a fault", x.house(600), -9);
        Kit.work(x, "join 0 0;");
        Kit.due("a step refused", x.told(10), 1);
        x.undo();
        x.undo();
        x.restore();
        for (int i = 0; i < 4; i++) {
            x.image();
        }
        x.count(9);
        x.status(9);
        Kit.due("missing", x.status(0), 0);
        Kit.due("illegal", x.status(1), 0);
    }

    static void asksOnly() {
        Kit.asksOnly("status(0)", x -> x.status(0));
        Kit.asksOnly("status(1)", x -> x.status(1));
    }
}
