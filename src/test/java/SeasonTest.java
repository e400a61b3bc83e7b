/**
 * Promises 38 and 39. What is drawn by the seed 0: 0, 21468, 9988, 22117, 3498, 16927, 16045, 19741.
 * In each night of a house with schemes and cats come a scheme, a room and the number that Q is for.
 */
public final class SeasonTest {
    private static final String TWO_ROOMS = "room 0;room 0;way 0 1;scheme 0 3 1;cat 1 0;";

    public static void main(String[] args) {
        drawnBySeed();
        callsByQ();
        schemesAlone();
        catsAlone();
        refusals();
        spans();
        Kit.end("SeasonTest");
    }

    private static void drawnBySeed() {
        IdeaMousers x = Kit.withHouse(TWO_ROOMS);
        Kit.due("21468: stays in room 0", x.season(0, 1, 0, 0), 1);
        Kit.due("size", x.season(0, 1, 0, 1), 4);
        Kit.due("3498: stays in room 0", x.season(0, 2, 0, 1), 5);
        Kit.due("none took any", x.season(0, 2, 0, 3), -1);
        Kit.due("19741: hides in room 1", x.season(0, 3, 0, 0), 0);
        Kit.due("no size", x.season(0, 3, 0, 1), 0);
        Kit.due("on the mat", x.season(0, 3, 0, 2), 1);
        Kit.due("by the cat", x.season(0, 3, 0, 3), 0);
        Kit.due("nothing stays changed", x.told(4) + x.told(6), 0);
        Kit.work(x, "shut 0;");
        Kit.due("it can't be done", x.season(0, 3, 0, 1), 6);
        IdeaMousers y = Kit.withHouse("room 0;room 0;scheme 1 1 0;scheme 0 2 0;scheme 1 9 0;cat 0 0;cat 1 0;");
        Kit.work(y, "night;");
        Kit.due("what was taken before", y.season(7, 1, 0, 2), 3);
        Kit.due("the second cat took two by then", y.season(7, 1, 0, 3), 1);
    }

    private static void callsByQ() {
        IdeaMousers x = Kit.withHouse(TWO_ROOMS);
        // 9988 is 4 of 16; then 3498 calls the cat to room 0.
        Kit.due("4 is not below 4", x.season(0, 1, 4, 0), 1);
        Kit.due("4 is below 5", x.season(0, 1, 5, 0), 0);
        Kit.due("16: always", x.season(0, 1, 16, 0), 0);
        Kit.work(x, "shut 0;");
        Kit.due("the way is shut", x.season(0, 1, 16, 0), 1);
        Kit.work(x, "shut 0;");
        Kit.law(x, "night*10");
        Kit.work(x, "night;");
        Kit.due("by the law", x.season(0, 1, 0, 1), 13);
    }

    private static void schemesAlone() {
        // Two numbers a night: 0 and 21468, 9988 and 22117 (scheme 0 to room 1), 3498 and 16927.
        IdeaMousers x = Kit.withHouse("room 5;room 9;way 0 1;scheme 0 1 0;scheme 0 1 0;");
        Kit.law(x, "hide");
        Kit.due("first night", x.season(0, 1, 16, 1), 1 + 1 + 5 + 5);
        Kit.due("second night", x.season(0, 2, 16, 1), 12 + 9 + 5);
        Kit.due("third night", x.season(0, 3, 16, 1), 26 + 9 + 5);
        Kit.due("all live", x.season(0, 96, 16, 0), 3);
    }

    private static void catsAlone() {
        IdeaMousers x = Kit.withHouse("room 0;room 0;way 0 1;cat 0 0;");
        Kit.due("none live", x.season(3, 96, 16, 0), 0);
        Kit.due("no size", x.season(3, 96, 16, 1), 0);
        Kit.due("none lie", x.season(3, 96, 16, 2), 0);
        Kit.due("none took", x.season(3, 96, 16, 3), -1);
        Kit.illegal("no such scheme", () -> x.span(3, 1, 1, 0, 0, 0));
    }

    private static void refusals() {
        IdeaMousers x = Kit.withHouse(TWO_ROOMS);
        Kit.illegal("nights", () -> x.season(0, 97, 0, 0));
        Kit.illegal("no nights", () -> x.season(0, 0, 0, 0));
        Kit.illegal("q", () -> x.season(0, 1, 17, 0));
        Kit.illegal("q below", () -> x.season(0, 1, -1, 0));
        Kit.illegal("what", () -> x.season(0, 1, 0, 4));
        Kit.illegal("what below", () -> x.season(0, 1, 0, -1));
        Kit.illegal("span many", () -> x.span(0, 21, 1, 0, 0, 0));
        Kit.illegal("span none", () -> x.span(0, 0, 1, 0, 0, 0));
        Kit.illegal("span nights", () -> x.span(0, 1, 97, 0, 0, 0));
        Kit.illegal("span no nights", () -> x.span(0, 1, 0, 0, 0, 0));
        Kit.illegal("span q", () -> x.span(0, 1, 1, 17, 0, 0));
        Kit.illegal("span q below", () -> x.span(0, 1, 1, -1, 0, 0));
        Kit.illegal("span what", () -> x.span(0, 1, 1, 0, 3, 0));
        Kit.illegal("span what below", () -> x.span(0, 1, 1, 0, -1, 0));
        Kit.illegal("span scheme", () -> x.span(0, 1, 1, 0, 0, 1));
        Kit.illegal("span scheme below", () -> x.span(0, 1, 1, 0, 1, -1));
        Kit.due("all counted", x.status(1), 16);
    }

    private static void spans() {
        IdeaMousers x = Kit.withHouse(Kit.HOUSE);
        int[] firsts = {0, 77, -5, Integer.MAX_VALUE - 3};
        for (int first : firsts) {
            int fewest = 9;
            int most = -1;
            int lives = 0;
            for (int i = 0; i < 20; i++) {
                int alive = x.season(first + i, 4, 9, 0);
                fewest = Math.min(fewest, Integer.bitCount(alive));
                most = Math.max(most, Integer.bitCount(alive));
                lives += alive >> 2 & 1;
            }
            Kit.due("fewest from " + first, x.span(first, 20, 4, 9, 0, 2), fewest);
            Kit.due("most from " + first, x.span(first, 20, 4, 9, 1, 2), most);
            Kit.due("lives from " + first, x.span(first, 20, 4, 9, 2, 2), lives);
        }
        IdeaMousers y = Kit.withHouse(TWO_ROOMS);
        Kit.due("one night", y.span(0, 1, 1, 0, 0, 0), 1);
        Kit.due("one seed", y.span(0, 1, 2, 0, 2, 0), 1);
        Kit.due("one seed more nights", y.span(0, 1, 3, 0, 2, 0), 0);
        Kit.due("96 nights", y.span(0, 20, 96, 16, 1, 0), 0);
    }
}
