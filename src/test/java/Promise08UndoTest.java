/** Promise 8: the latest work that was done is undone. */
public final class Promise08UndoTest {
    public static void main(String[] args) {
        Kit.run(Promise08UndoTest.class);
    }

    private static void told(IdeaMousers x) {
        Kit.house(x, Kit.HOUSE);
        Kit.law(x, "grow+1");
        Kit.book(x, "0 1;");
    }

    static void minus1WithoutWorks() {
        Kit.changesNothing("undo", Promise08UndoTest::told, x -> x.undo(), -1);
        Kit.changesNothing("undo behind a fault", x -> { told(x); Kit.work(x, "x"); }, x -> x.undo(), -1);
        Kit.changesNothing("undo with an image", x -> { told(x); x.image(); }, x -> x.undo(), -1);
        Kit.changesNothing("undo once too often", x -> { told(x); Kit.work(x, "night;"); x.undo(); }, x -> x.undo(), -1);
    }

    static void answersHowManyAreLeft() {
        IdeaMousers x = Kit.made(Promise08UndoTest::told);
        for (int i = 0; i < 16; i++) {
            Kit.work(x, "feed 2 " + (i + 1) + ";");
        }
        for (int left = 15; left >= 0; left--) {
            Kit.due("undo", x.undo(), left);
            Kit.due("size", x.scheme(2, 1), 15 + left * (left + 1) / 2);
            Kit.due("works", x.count(2), left);
        }
        Kit.due("undo", x.undo(), -1);
    }

    static void aWorkOfNoStepsToo() {
        IdeaMousers x = Kit.made(Promise08UndoTest::told);
        Kit.work(x, "night;");
        x.work(0);
        Kit.work(x, "join 0 0;");
        Kit.due("of refused steps alone", x.undo(), 2);
        Kit.due("of no steps", x.undo(), 1);
        Kit.due("the night is still there", x.told(4), 1);
        Kit.due("the night", x.undo(), 0);
        Kit.due("is gone", x.told(4), 0);
    }

    static void everyKindOfStep() {
        String[] steps = {"hide 0 1;", "call 0 1;", "feed 0 60;", "join 0 1;", "shut 3;", "night;", "again 3 [night;];"};
        for (String step : steps) {
            IdeaMousers x = Kit.made(Promise08UndoTest::told);
            Kit.work(x, step);
            Kit.due("undo <" + step + ">", x.undo(), 0);
            Kit.sameAs("as ahead of <" + step + ">", x, Promise08UndoTest::told);
        }
    }

    static void whoTookIsForgotten() {
        IdeaMousers x = Kit.made(Promise08UndoTest::told);
        Kit.work(x, "night;");
        Kit.due("took", x.cat(0, 2), 1);
        x.undo();
        Kit.due("took", x.cat(0, 2), 0);
        Kit.due("by none", x.scheme(1, 5), -1);
        Kit.due("in no night", x.scheme(1, 4), -1);
        Kit.due("none is proud", x.proudest(0), -1);
    }

    static void leavesLawBookImagesAndTape() {
        IdeaMousers x = Kit.made(Promise08UndoTest::told);
        Kit.work(x, "night;");
        Kit.law(x, "7");
        Kit.book(x, "1 0;2 0;");
        x.image();
        Kit.put(x, "room 1;");
        Kit.due("undo", x.undo(), 0);
        Kit.due("law", x.more(0), 7);
        Kit.due("book", x.told(9), 2);
        Kit.due("images", x.count(0), 1);
        Kit.due("tape", x.count(1), 20);
    }

    static void leavesTheFaultAndTheRefusals() {
        IdeaMousers x = Kit.made(Kit::rich);
        Kit.outcome(x, y -> y.told(99));
        Kit.outcome(x, y -> y.more(99));
        Kit.due("undo", x.undo(), 2);
        Kit.due("fault", x.fault(), 2);
        Kit.due("missing", x.status(0), 1);
        Kit.due("illegal", x.status(1), 1);
    }

    static void worksBehindItTakeItsPlace() {
        IdeaMousers x = Kit.made(Promise08UndoTest::told);
        Kit.work(x, "shut 0;");
        Kit.work(x, "shut 1;");
        x.undo();
        Kit.work(x, "shut 2;");
        Kit.due("shut", x.told(8), 5);
        Kit.due("undo", x.undo(), 1);
        Kit.due("shut", x.told(8), 1);
        Kit.due("undo", x.undo(), 0);
        Kit.due("shut", x.told(8), 0);
    }

    static void noneIsThereBehindAHouse() {
        IdeaMousers x = Kit.made(Kit::rich);
        Kit.house(x, Kit.HOUSE);
        Kit.due("undo", x.undo(), -1);
    }
}
