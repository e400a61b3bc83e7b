/** Promises 9 to 17 and 28 to 37: what is, and what lies ahead. */
public final class TellTest {
    /** Scheme 1 is taken by cat 0; scheme 2 joins scheme 3 in room 2; way 1 is shut. */
    private static final String LATER = "night;hide 2 2;hide 3 2;join 3 2;shut 1;";

    public static void main(String[] args) {
        told();
        rooms();
        ways();
        schemes();
        cats();
        more();
        would();
        ahead();
        far();
        greatest();
        proudest();
        seen();
        crowd();
        grown();
        escapes();
        weight();
        empty();
        Kit.end("TellTest");
    }

    private static void told() {
        IdeaMousers x = Kit.withHouse(Kit.HOUSE);
        int[] now = {4, 4, 4, 3, 0, 15, 0, 0, 0, 0, 0, 41};
        for (int what = 0; what < now.length; what++) {
            Kit.due("told(" + what + ")", x.told(what), now[what]);
        }
        Kit.book(x, "1 0;");
        Kit.work(x, LATER + "join 0 3;night 0;");
        Kit.due("a wrong work changes none of it", x.told(4), 0);
        Kit.work(x, LATER + "join 0 3;");
        int[] later = {4, 4, 4, 3, 1, 9, 2, 4, 2, 1, 1, 7 + 30};
        for (int what = 0; what < later.length; what++) {
            Kit.due("later told(" + what + ")", x.told(what), later[what]);
        }
        Kit.illegal("told(-1)", () -> x.told(-1));
        Kit.illegal("told(12)", () -> x.told(12));
    }

    private static void rooms() {
        IdeaMousers x = Kit.withHouse(Kit.HOUSE);
        int[][] now = {{10, 3, 1, 6}, {20, 4, 4, 5}, {0, 0, 2, 11}, {30, 8, 0, 4}};
        for (int room = 0; room < 4; room++) {
            for (int what = 0; what < 4; what++) {
                Kit.due("room(" + room + ", " + what + ")", x.room(room, what), now[room][what]);
            }
        }
        Kit.work(x, LATER);
        Kit.due("those that live there", x.room(2, 1), 8);
        Kit.due("taken ones are not there", x.room(0, 1), 1);
        Kit.due("behind shut ways", x.room(1, 3), 1);
        Kit.due("from the other side", x.room(2, 3), 9);
        Kit.missing("room(4, 0)", () -> x.room(4, 0));
        Kit.missing("room(-1, 9)", () -> x.room(-1, 9));
        Kit.illegal("room(0, 4)", () -> x.room(0, 4));
        Kit.illegal("room(0, -1)", () -> x.room(0, -1));
    }

    private static void ways() {
        IdeaMousers x = Kit.withHouse(Kit.HOUSE);
        Kit.due("A", x.way(2, 0), 2);
        Kit.due("B", x.way(2, 1), 0);
        Kit.due("open", x.way(2, 2), 0);
        Kit.work(x, "shut 2;");
        Kit.due("shut", x.way(2, 2), 1);
        Kit.due("another one", x.way(3, 2), 0);
        Kit.work(x, "shut 2;");
        Kit.due("open again", x.way(2, 2), 0);
        Kit.missing("way(4, 3)", () -> x.way(4, 3));
        Kit.missing("way(-1, 0)", () -> x.way(-1, 0));
        Kit.illegal("way(3, 3)", () -> x.way(3, 3));
        Kit.illegal("way(3, -1)", () -> x.way(3, -1));
    }

    private static void schemes() {
        IdeaMousers x = Kit.withHouse(Kit.HOUSE);
        int[] now = {3, 12, 3, 1, -1, -1};
        for (int what = 0; what < now.length; what++) {
            Kit.due("scheme(3, " + what + ")", x.scheme(3, what), now[what]);
        }
        Kit.work(x, "call 2 0;night;" + LATER);
        int[][] later = {{0, 9, 2, 0, 1, 0}, {0, 10, 1, 0, 0, 0}, {2, 15, 0, 0, -1, -1}, {2, 33, 3, 1, -1, -1}};
        for (int scheme = 0; scheme < 4; scheme++) {
            for (int what = 0; what < 6; what++) {
                Kit.due("scheme(" + scheme + ", " + what + ")", x.scheme(scheme, what), later[scheme][what]);
            }
        }
        Kit.missing("scheme(4, 9)", () -> x.scheme(4, 9));
        Kit.missing("scheme(-1, 0)", () -> x.scheme(-1, 0));
        Kit.illegal("scheme(0, 6)", () -> x.scheme(0, 6));
        Kit.illegal("scheme(0, -1)", () -> x.scheme(0, -1));
    }

    private static void cats() {
        IdeaMousers x = Kit.withHouse(Kit.HOUSE);
        Kit.due("room", x.cat(1, 0), 2);
        Kit.due("nose", x.cat(1, 1), 9);
        Kit.due("took", x.cat(1, 2), 0);
        Kit.due("sees", x.cat(0, 3), 2);
        Kit.work(x, "feed 0 2;call 0 2;call 0 0;");
        Kit.due("sees two", x.cat(0, 3), 3);
        Kit.work(x, "night;");
        Kit.due("sees one that lives", x.cat(0, 3), 1);
        Kit.due("took one", x.cat(0, 2), 1);
        Kit.missing("cat(3, 9)", () -> x.cat(3, 9));
        Kit.missing("cat(-1, 0)", () -> x.cat(-1, 0));
        Kit.illegal("cat(0, 4)", () -> x.cat(0, 4));
        Kit.illegal("cat(0, -1)", () -> x.cat(0, -1));
    }

    private static void more() {
        IdeaMousers x = Kit.withHouse(Kit.HOUSE);
        Kit.due("grow", x.more(3), 3);
        Kit.law(x, "size+grow*2+hide-cats*3+night*5+mat*7-scheme*20");
        Kit.due("of the first", x.more(0), 5 + 4 + 10 - 3);
        Kit.due("of the fourth, 0 at least", x.more(3), 0);
        Kit.work(x, "call 1 0;");
        Kit.due("with a cat more", x.more(0), 5 + 4 + 10 - 6);
        Kit.law(x, "size-8+cats+night*10+mat*5");
        Kit.work(x, "night;");
        // Sizes 5, 9 and 15 grew by 0, 3 and 8; both cats of room 0 and that of room 1 took one.
        Kit.due("mat", x.told(6), 7);
        Kit.due("one that was taken, as it was last", x.more(1), 12 - 8 + 2 + 10 + 15);
        Kit.work(x, "call 0 1;");
        Kit.due("the cats that are there now", x.more(1), 12 - 8 + 1 + 10 + 15);
        Kit.missing("more(4)", () -> x.more(4));
        Kit.missing("more(-1)", () -> x.more(-1));
    }

    private static void would() {
        IdeaMousers x = Kit.withHouse(Kit.HOUSE);
        Kit.due("grow", x.would(999, 9, 60, 5, 900, 8, 7), 9);
        Kit.law(x, "size%100+grow-hide+cats-night%10+mat-scheme");
        Kit.due("by the law", x.would(999, 9, 60, 5, 899, 8, 7), 99 + 9 - 60 + 5 - 9 + 8 - 7);
        Kit.due("least ones", x.would(0, 0, 0, 0, 0, 0, 0), 0);
        Kit.illegal("size", () -> x.would(1000, 0, 0, 0, 0, 0, 0));
        Kit.illegal("grow", () -> x.would(0, 10, 0, 0, 0, 0, 0));
        Kit.illegal("hide", () -> x.would(0, 0, 61, 0, 0, 0, 0));
        Kit.illegal("cats", () -> x.would(0, 0, 0, 6, 0, 0, 0));
        Kit.illegal("night", () -> x.would(0, 0, 0, 0, 901, 0, 0));
        Kit.illegal("mat", () -> x.would(0, 0, 0, 0, 0, 9, 0));
        Kit.illegal("scheme", () -> x.would(0, 0, 0, 0, 0, 0, 8));
        Kit.illegal("size below", () -> x.would(-1, 0, 0, 0, 0, 0, 0));
        Kit.illegal("grow below", () -> x.would(0, -1, 0, 0, 0, 0, 0));
        Kit.illegal("hide below", () -> x.would(0, 0, -1, 0, 0, 0, 0));
        Kit.illegal("cats below", () -> x.would(0, 0, 0, -1, 0, 0, 0));
        Kit.illegal("night below", () -> x.would(0, 0, 0, 0, -1, 0, 0));
        Kit.illegal("mat below", () -> x.would(0, 0, 0, 0, 0, -1, 0));
        Kit.illegal("scheme below", () -> x.would(0, 0, 0, 0, 0, 0, -1));
        Kit.due("all counted", x.status(1), 14);
    }

    private static void ahead() {
        IdeaMousers x = Kit.withHouse(Kit.HOUSE);
        int[][] due = {{15, 41, 0}, {13, 37, 1}, {12, 33, 2}};
        for (int n = 0; n < 3; n++) {
            for (int what = 0; what < 3; what++) {
                Kit.due("ahead(" + n + ", " + what + ")", x.ahead(n, what), due[n][what]);
            }
        }
        Kit.due("99 nights", x.ahead(99, 1), 15 + 12 + 297);
        Kit.due("nothing stays changed", x.told(4) + x.told(6), 0);
        Kit.illegal("ahead(100, 0)", () -> x.ahead(100, 0));
        Kit.illegal("ahead(-1, 0)", () -> x.ahead(-1, 0));
        Kit.illegal("ahead(0, 3)", () -> x.ahead(0, 3));
        Kit.illegal("ahead(0, -1)", () -> x.ahead(0, -1));
    }

    private static void far() {
        IdeaMousers x = Kit.withHouse("room 0;room 0;room 0;room 0;room 0;room 0;room 0;room 0;"
            + "way 0 1;way 2 1;way 2 3;way 4 3;way 4 5;way 6 5;way 6 7;way 0 4;");
        Kit.due("itself", x.far(7, 7), 0);
        Kit.due("by the short cut", x.far(0, 7), 4);
        Kit.due("beside", x.far(1, 2), 1);
        Kit.work(x, "shut 7;");
        Kit.due("seven ways", x.far(0, 7), 7);
        Kit.due("and back", x.far(7, 0), 7);
        Kit.work(x, "shut 3;");
        Kit.due("no way", x.far(0, 7), -1);
        Kit.missing("far(8, 0)", () -> x.far(8, 0));
        Kit.missing("far(0, 8)", () -> x.far(0, 8));
        Kit.missing("far(-1, 0)", () -> x.far(-1, 0));
        Kit.missing("far(0, -1)", () -> x.far(0, -1));
    }

    private static void greatest() {
        IdeaMousers x = Kit.withHouse("room 60;scheme 0 5 0;scheme 0 7 0;scheme 0 7 0;");
        Kit.due("the first of alike ones", x.greatest(0), 1);
        Kit.due("its size", x.greatest(1), 7);
        Kit.work(x, "join 2 1;join 2 0;");
        Kit.due("one that lives", x.greatest(0), 2);
        Kit.due("its size", x.greatest(1), 19);
        Kit.illegal("greatest(2)", () -> x.greatest(2));
        Kit.illegal("greatest(-1)", () -> x.greatest(-1));
    }

    private static void proudest() {
        IdeaMousers x = Kit.withHouse("room 0;room 0;scheme 0 1 0;scheme 1 1 0;scheme 1 1 0;cat 0 0;cat 1 0;");
        Kit.due("none took any", x.proudest(0), -1);
        Kit.due("none", x.proudest(1), -1);
        Kit.work(x, "night;");
        Kit.due("the first of alike ones", x.proudest(0), 0);
        Kit.due("one", x.proudest(1), 1);
        Kit.work(x, "night;");
        Kit.due("the second", x.proudest(0), 1);
        Kit.due("two", x.proudest(1), 2);
        Kit.illegal("proudest(2)", () -> x.proudest(2));
        Kit.illegal("proudest(-1)", () -> x.proudest(-1));
    }

    private static void seen() {
        IdeaMousers x = Kit.withHouse(Kit.HOUSE);
        Kit.due("safe", x.safe(), 13);
        Kit.due("doomed", x.doomed(), 2);
        Kit.due("hungry", x.hungry(), 6);
        // Room 0 shows from 7 on, room 1 from 21 on, room 2 from 0 on; room 3 has no cat.
        Kit.due("havens(6)", x.havens(6), 11);
        Kit.due("havens(7)", x.havens(7), 10);
        Kit.due("havens(20)", x.havens(20), 10);
        Kit.due("havens(21)", x.havens(21), 8);
        Kit.due("havens(999)", x.havens(999), 8);
        Kit.due("havens(1)", x.havens(1), 11);
        Kit.illegal("havens(0)", () -> x.havens(0));
        Kit.illegal("havens(1000)", () -> x.havens(1000));
        Kit.work(x, "call 2 0;");
        Kit.due("the second cat sees none", x.doomed(), 2);
        Kit.work(x, "feed 0 6;feed 1 2;");
        Kit.due("doomed both", x.doomed(), 3);
        Kit.due("nothing stays changed", x.told(5), 15);
        Kit.work(x, "night;");
        Kit.due("doomed are not those on the mat", x.doomed(), 0);
        Kit.due("safe ones live", x.safe(), 12);
        Kit.due("all hungry", x.hungry(), 7);
    }

    private static void crowd() {
        IdeaMousers x = Kit.withHouse(Kit.HOUSE);
        Kit.due("room", x.crowd(0), 0);
        Kit.due("many", x.crowd(1), 2);
        Kit.work(x, "night;");
        Kit.due("the first of alike ones", x.crowd(0), 0);
        Kit.due("one", x.crowd(1), 1);
        Kit.work(x, "hide 2 2;hide 3 2;");
        Kit.due("another room", x.crowd(0), 2);
        Kit.illegal("crowd(2)", () -> x.crowd(2));
        Kit.illegal("crowd(-1)", () -> x.crowd(-1));
    }

    private static void grown() {
        IdeaMousers x = Kit.withHouse(Kit.HOUSE);
        Kit.due("now", x.grown(0, 0), 5);
        Kit.due("in a night", x.grown(0, 1), 7);
        Kit.due("taken", x.grown(0, 2), -1);
        Kit.due("in 99 nights", x.grown(3, 99), 12 + 297);
        Kit.missing("grown(4, 100)", () -> x.grown(4, 100));
        Kit.missing("grown(-1, 0)", () -> x.grown(-1, 0));
        Kit.illegal("grown(0, 100)", () -> x.grown(0, 100));
        Kit.illegal("grown(0, -1)", () -> x.grown(0, -1));
        Kit.work(x, "night;");
        Kit.due("does not live now", x.grown(1, 0), -1);
    }

    private static void escapes() {
        IdeaMousers x = Kit.withHouse(Kit.HOUSE);
        Kit.due("own and one beside", x.escapes(0), 3);
        Kit.due("one beside", x.escapes(1), 2);
        Kit.due("own only", x.escapes(2), 2);
        Kit.due("own only", x.escapes(3), 8);
        Kit.work(x, "shut 0;");
        Kit.due("a shut way", x.escapes(1), 0);
        Kit.work(x, "shut 0;night;");
        Kit.due("does not live", x.escapes(1), 0);
        Kit.missing("escapes(4)", () -> x.escapes(4));
        Kit.missing("escapes(-1)", () -> x.escapes(-1));
    }

    private static void weight() {
        IdeaMousers x = Kit.withHouse(Kit.HOUSE);
        Kit.due("room 0", x.weight(0), 14);
        Kit.due("room 2", x.weight(2), 0);
        Kit.work(x, "night;");
        Kit.due("of those that live", x.weight(0), 7);
        Kit.missing("weight(4)", () -> x.weight(4));
        Kit.missing("weight(-1)", () -> x.weight(-1));
    }

    private static void empty() {
        IdeaMousers x = Kit.withHouse("room 0;scheme 0 1 0;cat 0 0;");
        Kit.work(x, "night;");
        Kit.due("greatest", x.greatest(0), -1);
        Kit.due("its size", x.greatest(1), -1);
        Kit.due("crowd", x.crowd(0), -1);
        Kit.due("how many", x.crowd(1), -1);
        Kit.due("safe", x.safe(), 0);
        Kit.due("hungry", x.hungry(), 1);
        IdeaMousers y = new IdeaMousers();
        Kit.due("havens of nothing", y.havens(5), 0);
        Kit.due("hungry of nothing", y.hungry(), 0);
        Kit.due("doomed of nothing", y.doomed(), 0);
        Kit.due("ahead of nothing", y.ahead(9, 0) + y.ahead(9, 1) + y.ahead(9, 2), 0);
        Kit.missing("weight of nothing", () -> y.weight(0));
    }
}
