/** Promise 29: the cat that took most by now. */
public final class Promise29ProudestTest {
    public static void main(String[] args) {
        Kit.run(Promise29ProudestTest.class);
    }

    private static void is(IdeaMousers x, int cat, int many) {
        Kit.due("which", x.proudest(0), cat);
        Kit.due("how many", x.proudest(1), many);
    }

    static void anotherWhatIsRefused() {
        Kit.illegal("-1", x -> x.proudest(-1));
        Kit.illegal("2", x -> x.proudest(2));
        Kit.illegal("the least number", x -> x.proudest(Integer.MIN_VALUE));
        Kit.illegal("the greatest number", x -> x.proudest(Integer.MAX_VALUE));
    }

    static void noneIfNoneTookAny() {
        is(Kit.withHouse(Kit.HOUSE), -1, -1);
        is(Kit.withHouse("room 0;"), -1, -1);
        IdeaMousers x = Kit.withHouse("room 60;scheme 0 1 0;scheme 0 1 0;cat 0 0;");
        Kit.work(x, "night;join 0 1;");
        is(x, -1, -1);
    }

    static void ofAlikeOnesTheFirst() {
        IdeaMousers x = Kit.withHouse("room 0;room 0;scheme 0 1 0;scheme 1 1 0;scheme 1 1 0;cat 0 0;cat 1 0;");
        Kit.work(x, "night;");
        is(x, 0, 1);
        Kit.work(x, "night;");
        is(x, 1, 2);
    }

    static void theLastCatTookAll() {
        IdeaMousers x = Kit.withHouse("room 0;room 0;" + "scheme 1 1 0;".repeat(8) + "cat 0 0;".repeat(4) + "cat 1 0;");
        Kit.work(x, "again 9 [night;];");
        is(x, 4, 8);
    }

    static void oneInBetweenTookMost() {
        IdeaMousers x = Kit.withHouse("room 0;room 0;room 0;scheme 1 1 0;scheme 1 1 0;scheme 2 1 0;cat 0 0;cat 1 0;cat 2 0;");
        Kit.work(x, "night;night;");
        is(x, 1, 2);
    }

    static void whereTheCatsAreDoesNotMatter() {
        IdeaMousers x = Kit.withHouse("room 0;".repeat(8) + "scheme 0 1 0;cat 0 0;" + "cat 7 0;".repeat(4));
        is(x, -1, -1);
        Kit.work(x, "night;");
        is(x, 0, 1);
    }

    static void behindUndoAsAhead() {
        IdeaMousers x = Kit.withHouse(Kit.HOUSE);
        Kit.work(x, "night;");
        is(x, 0, 1);
        x.undo();
        is(x, -1, -1);
    }

    static void asksOnly() {
        Kit.asksOnly("proudest(0)", x -> x.proudest(0));
        Kit.asksOnly("proudest(1)", x -> x.proudest(1));
    }
}
