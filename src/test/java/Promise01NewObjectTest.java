/** Promise 1: a new object is a house without clauses. */
public final class Promise01NewObjectTest {
    public static void main(String[] args) {
        Kit.run(Promise01NewObjectTest.class);
    }

    private static void nothing(IdeaMousers x) {
    }

    static void noneIsMinusOne() {
        Kit.due("NONE", IdeaMousers.NONE, -1);
    }

    static void tellsNothing() {
        IdeaMousers x = new IdeaMousers();
        for (int what = 0; what <= 11; what++) {
            Kit.due("told(" + what + ")", x.told(what), 0);
        }
    }

    static void isAsBehindAnEmptyHouse() {
        IdeaMousers x = new IdeaMousers();
        Kit.due("house(0)", x.house(0), 0);
        Kit.sameAs("new, and with a house without clauses", x, Promise01NewObjectTest::nothing);
    }

    static void hasNoFaultNothingToUndoNoImageNoByte() {
        IdeaMousers x = new IdeaMousers();
        Kit.due("fault", x.fault(), -1);
        Kit.due("images", x.count(0), 0);
        Kit.due("bytes", x.count(1), 0);
        Kit.due("works", x.count(2), 0);
        Kit.due("undo", x.undo(), -1);
        Kit.due("restore", x.restore(), -1);
        Kit.due("refused for what is missing", x.status(0), 0);
        Kit.due("refused for what is wrong", x.status(1), 0);
    }

    static void hasNoLawAndNoBook() {
        IdeaMousers x = new IdeaMousers();
        Kit.due("would", x.would(9, 4, 0, 0, 0, 0, 0), 4);
        Kit.due("lines", x.told(9), 0);
    }

    static void hasNoRoomWaySchemeCat() {
        Kit.missing("room(0, 0)", Promise01NewObjectTest::nothing, x -> x.room(0, 0));
        Kit.missing("way(0, 0)", Promise01NewObjectTest::nothing, x -> x.way(0, 0));
        Kit.missing("scheme(0, 0)", Promise01NewObjectTest::nothing, x -> x.scheme(0, 0));
        Kit.missing("cat(0, 0)", Promise01NewObjectTest::nothing, x -> x.cat(0, 0));
        Kit.missing("more(0)", Promise01NewObjectTest::nothing, x -> x.more(0));
        Kit.missing("far(0, 0)", Promise01NewObjectTest::nothing, x -> x.far(0, 0));
        Kit.missing("lasts(0)", Promise01NewObjectTest::nothing, x -> x.lasts(0));
        Kit.missing("slips(0, 0)", Promise01NewObjectTest::nothing, x -> x.slips(0, 0));
        Kit.missing("prey(0)", Promise01NewObjectTest::nothing, x -> x.prey(0));
        Kit.missing("sums(0, 0)", Promise01NewObjectTest::nothing, x -> x.sums(0, 0));
        Kit.missing("crumbs(0, 0, 0)", Promise01NewObjectTest::nothing, x -> x.crumbs(0, 0, 0));
        Kit.missing("grown(0, 0)", Promise01NewObjectTest::nothing, x -> x.grown(0, 0));
        Kit.missing("escapes(0)", Promise01NewObjectTest::nothing, x -> x.escapes(0));
        Kit.missing("weight(0)", Promise01NewObjectTest::nothing, x -> x.weight(0));
        Kit.illegal("span of scheme 0", Promise01NewObjectTest::nothing, x -> x.span(0, 1, 1, 0, 0, 0));
    }

    static void answersWithNothingWhatIsAskedOfAll() {
        IdeaMousers x = new IdeaMousers();
        for (int what = 0; what <= 2; what++) {
            Kit.due("ahead(99, " + what + ")", x.ahead(99, what), 0);
        }
        Kit.due("hunt(0)", x.hunt(0), 0);
        Kit.due("hunt(1)", x.hunt(1), 0);
        Kit.due("fits(0)", x.fits(0), 0);
        Kit.due("safe", x.safe(), 0);
        Kit.due("doomed", x.doomed(), 0);
        Kit.due("havens", x.havens(1), 0);
        Kit.due("hungry", x.hungry(), 0);
        for (int what = 0; what <= 2; what++) {
            Kit.due("season what " + what, x.season(1, 96, 16, what), 0);
        }
    }

    static void answersNoneWhereThereIsNoFirst() {
        IdeaMousers x = new IdeaMousers();
        Kit.due("fits(1)", x.fits(1), -1);
        for (int what = 0; what <= 1; what++) {
            Kit.due("look(" + what + ")", x.look(what), -1);
            Kit.due("greatest(" + what + ")", x.greatest(what), -1);
            Kit.due("proudest(" + what + ")", x.proudest(what), -1);
            Kit.due("crowd(" + what + ")", x.crowd(what), -1);
        }
        Kit.due("season what 3", x.season(1, 96, 16, 3), -1);
    }

    static void worksWithoutClauses() {
        IdeaMousers x = new IdeaMousers();
        Kit.due("nights go by", Kit.work(x, "night;night;"), 2);
        Kit.due("night 2", x.told(4), 2);
        Kit.due("no scheme to hide", Kit.work(x, "hide 0 0;"), -8);
        Kit.due("no cat to call", Kit.work(x, "call 0 0;"), -8);
        Kit.due("no way to shut", Kit.work(x, "shut 0;"), -8);
        Kit.due("no cat for a line", Kit.book(x, "0 0;"), -8);
        Kit.due("an image", x.image(), 1);
        Kit.due("undo", x.undo(), 0);
        Kit.due("night 0", x.told(4), 0);
    }

    static void sharesNothingWithAnother() {
        IdeaMousers x = new IdeaMousers();
        Kit.richWithTape(new IdeaMousers());
        Kit.sameAs("beside a rich one", x, Promise01NewObjectTest::nothing);
    }
}
