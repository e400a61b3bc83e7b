/** Promises 18 to 27: lasts, slips, hunt, prey, sums, fits, look, uncle, boat, crumbs. */
public final class AskTest {
    public static void main(String[] args) {
        lasts();
        slips();
        slipsByAPathOfItsOwn();
        slipsPastARival();
        slipsBySize();
        hunts();
        huntsByMostThenFewest();
        sums();
        fits();
        looks();
        uncles();
        boats();
        crumbs();
        Kit.end("AskTest");
    }

    private static void lasts() {
        IdeaMousers x = Kit.withHouse(Kit.HOUSE);
        Kit.due("two nights", x.lasts(0), 2);
        Kit.due("one night", x.lasts(1), 1);
        Kit.due("more than 99", x.lasts(2), -1);
        Kit.work(x, "night;");
        Kit.due("does not live", x.lasts(1), -1);
        Kit.due("one left", x.lasts(0), 1);
        Kit.due("nothing stays changed", x.told(4), 1);
        IdeaMousers y = Kit.withHouse("room 1;scheme 0 1 0;cat 0 0;");
        Kit.law(y, "night/98");
        Kit.due("99 nights", y.lasts(0), 99);
        Kit.law(y, "night/99");
        Kit.due("100 nights", y.lasts(0), -1);
        Kit.missing("lasts(4)", () -> x.lasts(4));
        Kit.missing("lasts(-1)", () -> x.lasts(-1));
    }

    private static void slips() {
        IdeaMousers x = Kit.withHouse("room 0;room 0;room 0;room 0;way 0 1;way 2 1;way 2 3;scheme 0 1 0;scheme 2 1 0;");
        for (int room = 0; room < 4; room++) {
            Kit.due("nights to room " + room, x.slips(0, room), room);
        }
        Kit.due("and back", x.slips(1, 0), 2);
        Kit.work(x, "shut 1;");
        Kit.due("a shut way", x.slips(0, 2), -1);
        Kit.due("up to it", x.slips(0, 1), 1);
        Kit.work(x, "shut 1;hide 1 1;hide 1 0;join 0 1;");
        Kit.due("does not live", x.slips(1, 0), -1);
        Kit.due("nothing stays changed", x.told(4), 0);
        Kit.missing("slips(2, 0)", () -> x.slips(2, 0));
        Kit.missing("slips(0, 4)", () -> x.slips(0, 4));
        Kit.missing("slips(-1, 0)", () -> x.slips(-1, 0));
        Kit.missing("slips(0, -1)", () -> x.slips(0, -1));
    }

    private static void slipsByAPathOfItsOwn() {
        // The short way leads by room 1, where it grows too great for the cat in room 3.
        String house = "room 0;room 9;room 0;room 10;room 0;way 0 1;way 1 3;way 0 2;way 2 4;way 4 3;scheme 0 8 0;cat 3 0;";
        IdeaMousers x = Kit.withHouse(house);
        Kit.due("by the short way", x.slips(0, 3), 2);
        Kit.law(x, "hide%10");
        Kit.due("by the long way", x.slips(0, 3), 3);
        Kit.work(x, "shut 4;");
        Kit.due("by none", x.slips(0, 3), -1);
        // The law makes it small steps only where a cat is; it waits for no night in room 0.
        IdeaMousers y = Kit.withHouse("room 0;room 6;way 0 1;scheme 0 5 0;cat 1 0;");
        Kit.law(y, "cats*2+night");
        Kit.due("seen at once", y.slips(0, 1), -1);
        Kit.law(y, "cats+night");
        Kit.due("not in the first night", y.slips(0, 1), 1);
    }

    private static void slipsPastARival() {
        // Scheme 0 would be seen in room 1, but for the night in which the rival is greater.
        IdeaMousers x = Kit.withHouse("room 0;room 10;way 0 1;scheme 0 20 0;scheme 1 10 0;cat 1 0;");
        Kit.due("never", x.slips(0, 1), -1);
        Kit.law(x, "scheme*(night/39)*50");
        Kit.due("in the 40th night", x.slips(0, 1), 40);
        Kit.law(x, "scheme*(night/40)*50");
        Kit.due("in the 41st night", x.slips(0, 1), -1);
        IdeaMousers first = Kit.withHouse("room 0;room 10;way 0 1;scheme 0 20 0;scheme 1 20 0;cat 1 0;");
        Kit.due("of alike ones the first is taken", first.slips(0, 1), -1);
        IdeaMousers second = Kit.withHouse("room 0;room 10;way 0 1;scheme 1 20 0;scheme 0 20 0;cat 1 0;");
        Kit.due("of alike ones the second is not", second.slips(1, 1), 1);
        IdeaMousers two = Kit.withHouse("room 0;room 10;way 0 1;scheme 1 20 0;scheme 0 20 0;cat 1 0;cat 1 0;");
        Kit.due("but by the second cat", two.slips(1, 1), -1);
    }

    private static void slipsBySize() {
        // A cat with a nose of 5 in a room of 50 sees what is above 45; it grows by 3 a night.
        for (int size = 1; size <= 60; size++) {
            IdeaMousers x = Kit.withHouse("room 0;room 0;room 50;way 0 1;way 1 2;scheme 0 " + size
                + " 3;scheme 1 " + size + " 3;cat 2 5;");
            Kit.due("one night by " + size, x.slips(1, 2), size + 3 <= 45 ? 1 : -1);
            Kit.due("two nights by " + size, x.slips(0, 2), size + 6 <= 45 ? 2 : -1);
        }
        // It is not taken where it was, so that the mat stays bare and it does not grow.
        IdeaMousers x = Kit.withHouse("room 0;room 0;room 10;way 0 1;way 1 2;scheme 0 5 0;cat 0 0;cat 2 0;");
        Kit.law(x, "mat*60");
        Kit.due("with a bare mat", x.slips(0, 2), 2);
        // Great ones that a still greater rival shields, or does not.
        for (int more = 0; more <= 2; more++) {
            IdeaMousers y = Kit.withHouse("room 0;room 10;way 0 1;scheme 0 19 0;scheme 1 20 0;scheme 0 19 0;cat 1 0;");
            Kit.work(y, more == 0 ? "" : "feed 0 " + more + ";feed 2 " + more + ";");
            Kit.due("the first one, by " + more, y.slips(0, 1), more == 0 ? 1 : -1);
            Kit.due("the last one, by " + more, y.slips(2, 1), more <= 1 ? 1 : -1);
        }
        IdeaMousers z = Kit.withHouse("room 60;room 0;way 0 1;scheme 0 60 0;scheme 1 60 9;cat 1 0;");
        Kit.work(z, "again 60 [feed 0 60;];hide 1 0;again 60 [feed 1 60;];hide 1 1;");
        Kit.due("two of 999: the first is taken", z.slips(0, 1), -1);
        Kit.due("a room without cats", z.slips(1, 0), 1);
    }

    private static void hunts() {
        IdeaMousers x = Kit.withHouse(Kit.HOUSE);
        Kit.due("given", x.hunt(0), 2);
        Kit.due("ways", x.hunt(1), 1);
        Kit.due("the first cat", x.prey(0), 1);
        Kit.due("the second", x.prey(1), 0);
        Kit.due("the third", x.prey(2), -1);
        Kit.due("nothing stays changed", x.cat(1, 0), 2);
        Kit.missing("prey(3)", () -> x.prey(3));
        Kit.missing("prey(-1)", () -> x.prey(-1));
        Kit.illegal("hunt(2)", () -> x.hunt(2));
        Kit.illegal("hunt(-1)", () -> x.hunt(-1));
        Kit.work(x, "shut 0;shut 2;");
        Kit.due("room 0 shut off", x.hunt(0), 2);
        Kit.due("one way", x.hunt(1), 1);
        Kit.due("the first cat still", x.prey(0), 1);
        Kit.due("the second in room 1", x.prey(1), 2);
        Kit.work(x, "shut 1;");
        Kit.due("shut in", x.prey(1), -1);
        Kit.work(x, "night;");
        Kit.due("the other one that lives", x.prey(0), 0);
    }

    private static void huntsByMostThenFewest() {
        String rooms = "room 0;room 0;room 0;way 0 1;way 1 2;";
        IdeaMousers one = Kit.withHouse(rooms + "scheme 2 1 0;cat 0 0;cat 2 0;");
        Kit.due("of fewest ways", one.prey(0), -1);
        Kit.due("the near cat", one.prey(1), 0);
        Kit.due("no way", one.hunt(1), 0);
        IdeaMousers alike = Kit.withHouse(rooms + "scheme 1 1 0;cat 0 0;cat 2 0;");
        Kit.due("of alike ways the first", alike.prey(0), 0);
        Kit.due("none last", alike.prey(1), -1);
        IdeaMousers both = Kit.withHouse(rooms + "scheme 1 1 0;scheme 1 1 0;cat 0 0;cat 2 0;");
        Kit.due("least scheme first", both.prey(0), 0);
        Kit.due("then the other", both.prey(1), 1);
        Kit.due("two ways", both.hunt(1), 2);
        IdeaMousers most = Kit.withHouse("room 10;room 10;way 0 1;scheme 0 8 0;scheme 1 5 0;cat 0 9;cat 0 3;");
        Kit.due("most are given", most.hunt(0), 2);
        Kit.due("the good nose goes far", most.prey(0), 1);
        Kit.due("the other one stays", most.prey(1), 0);
        Kit.due("by one way", most.hunt(1), 1);
        IdeaMousers full = Kit.withHouse(rooms + "scheme 2 1 0;".repeat(8) + "cat 0 0;".repeat(5));
        Kit.due("five are given", full.hunt(0), 5);
        Kit.due("ten ways", full.hunt(1), 10);
        for (int cat = 0; cat < 5; cat++) {
            Kit.due("in order", full.prey(cat), cat);
        }
        IdeaMousers none = new IdeaMousers();
        Kit.due("nothing", none.hunt(0) + none.hunt(1), 0);
    }

    private static void sums() {
        IdeaMousers x = Kit.withHouse("room 0;room 60;" + "scheme 0 5 0;".repeat(7) + "scheme 1 5 0;");
        int[] choices = {1, 7, 21, 35, 35, 21, 7, 1};
        for (int many = 0; many < 8; many++) {
            Kit.due("sums of " + many, x.sums(0, 5 * many), choices[many]);
        }
        Kit.due("of another room", x.sums(1, 5), 1);
        Kit.due("none", x.sums(0, 3), 0);
        Kit.due("too much", x.sums(0, 40), 0);
        Kit.work(x, "join 0 1;join 0 2;");
        Kit.due("those that live", x.sums(0, 15), 1 + 4);
        Kit.due("999", x.sums(0, 999), 0);
        Kit.missing("sums(2, 1000)", () -> x.sums(2, 1000));
        Kit.missing("sums(-1, 0)", () -> x.sums(-1, 0));
        Kit.illegal("sums(0, 1000)", () -> x.sums(0, 1000));
        Kit.illegal("sums(0, -1)", () -> x.sums(0, -1));
        IdeaMousers y = Kit.withHouse("room 60;scheme 0 60 0;scheme 0 60 0;");
        Kit.work(y, "again 60 [feed 0 60;];again 60 [feed 1 60;];");
        Kit.due("two of 999", y.sums(0, 999), 2);
    }

    private static void fits() {
        IdeaMousers x = Kit.withHouse("room 0;room 60;scheme 1 5 0;cat 0 0;cat 1 0;");
        Kit.due("without a book all", x.fits(0), 2);
        Kit.due("the first", x.fits(1), 0);
        Kit.book(x, "0 1;");
        Kit.due("taken", x.fits(0), 1);
        Kit.due("in room 0", x.fits(1), 0);
        Kit.book(x, "0 0;1 0;");
        Kit.due("not taken", x.fits(0), 1);
        Kit.due("in room 1", x.fits(1), 1);
        Kit.book(x, "1 1;");
        Kit.due("none", x.fits(0), 0);
        Kit.due("no first", x.fits(1), -1);
        Kit.due("nothing stays changed", x.scheme(0, 0), 1);
        Kit.illegal("fits(2)", () -> x.fits(2));
        Kit.illegal("fits(-1)", () -> x.fits(-1));
        // It is there no matter by which way; and each pair leaves the other ones where they are.
        IdeaMousers y = Kit.withHouse(Kit.HOUSE);
        Kit.book(y, "1 1;");
        Kit.due("each one in room 2", y.fits(0), 4);
        Kit.due("the first of them", y.fits(1), 2);
        Kit.work(y, "night;");
        Kit.due("those that live", y.fits(0), 3);
        Kit.book(y, "1 1;0 0;");
        Kit.due("scheme 0 alone spares room 0", y.fits(0), 1);
        Kit.due("it is the first", y.fits(1), 2);
        Kit.work(y, "night;night;");
        Kit.due("two live", y.fits(0), 2);
        Kit.due("the first of the third", y.fits(1), 22);
    }

    private static void looks() {
        IdeaMousers x = Kit.withHouse("room 0;room 60;scheme 1 5 0;cat 1 0;cat 0 0;cat 0 0;");
        Kit.due("the cat", x.look(0), 1);
        Kit.due("one is left at the worst", x.look(1), 1);
        Kit.book(x, "1 1;");
        Kit.due("alike ones: the first", x.look(0), 0);
        Kit.due("one left", x.look(1), 1);
        Kit.book(x, "0 1;");
        Kit.due("no pairs", x.look(0), 1);
        Kit.due("none left", x.look(1), 0);
        Kit.book(x, "2 0;0 0;1 1;");
        Kit.due("all are in lines", x.look(0), -1);
        Kit.due("all in lines", x.look(1), -1);
        Kit.illegal("look(2)", () -> x.look(2));
        Kit.illegal("look(-1)", () -> x.look(-1));
        IdeaMousers y = Kit.withHouse("room 0;scheme 0 1 0;");
        Kit.due("no cats", y.look(0), -1);
        Kit.due("none", y.look(1), -1);
    }

    private static void uncles() {
        IdeaMousers x = new IdeaMousers();
        Kit.due("w 0: all rest", x.uncle(9, 0, 0), 4);
        Kit.due("first both feed", x.uncle(9, 0, 1), 0);
        Kit.due("they have", x.uncle(9, 0, 2), 18);
        Kit.due("w above: both listen", x.uncle(99, 1, 0), 1);
        Kit.due("both listen", x.uncle(99, 1, 1), 11);
        Kit.due("they have none", x.uncle(99, 99, 2), 0);
        Kit.due("nothing at all", x.uncle(0, 0, 0), 4);
        Kit.illegal("v", () -> x.uncle(100, 0, 0));
        Kit.illegal("w", () -> x.uncle(0, 100, 0));
        Kit.illegal("v below", () -> x.uncle(-1, 0, 0));
        Kit.illegal("w below", () -> x.uncle(0, -1, 0));
        Kit.illegal("what", () -> x.uncle(0, 0, 3));
        Kit.illegal("what below", () -> x.uncle(0, 0, -1));
    }

    private static void boatIs(int n, int k, int q, long above, long below) {
        IdeaMousers x = new IdeaMousers();
        Kit.due("boat(" + n + ", " + k + ", " + q + ", 0)", x.boat(n, k, q, 0), above);
        Kit.due("boat(" + n + ", " + k + ", " + q + ", 1)", x.boat(n, k, q, 1), below);
    }

    private static void boats() {
        boatIs(0, 0, 5, 1, 1);
        boatIs(0, 1, 5, 0, 1);
        boatIs(2, 1, 8, 3, 4);
        boatIs(3, 2, 8, 1, 2);
        boatIs(2, 2, 4, 9, 16);
        boatIs(2, 1, 4, 15, 16);
        boatIs(5, 5, 0, 1, 1);
        boatIs(5, 0, 16, 1, 1);
        boatIs(5, 1, 16, 0, 1);
        boatIs(12, 13, 0, 0, 1);
        boatIs(12, 12, 1, 129746337890625L, 281474976710656L);
        boatIs(12, 12, 15, 1, 281474976710656L);
        IdeaMousers x = new IdeaMousers();
        Kit.illegal("n", () -> x.boat(13, 0, 0, 0));
        Kit.illegal("k", () -> x.boat(0, 14, 0, 0));
        Kit.illegal("q", () -> x.boat(0, 0, 17, 0));
        Kit.illegal("part", () -> x.boat(0, 0, 0, 2));
        Kit.illegal("n below", () -> x.boat(-1, 0, 0, 0));
        Kit.illegal("k below", () -> x.boat(0, -1, 0, 0));
        Kit.illegal("q below", () -> x.boat(0, 0, -1, 0));
        Kit.illegal("part below", () -> x.boat(0, 0, 0, -1));
    }

    private static void crumbs() {
        IdeaMousers x = Kit.withHouse(Kit.HOUSE);
        // In each row n, then what each of the sizes 5, 9, 15 and 12 gets of it.
        int[][] gets = {{0, 0, 0, 0, 0}, {3, 0, 0, 0, 0}, {4, 1, 1, 1, 1}, {20, 5, 5, 5, 5}, {23, 5, 6, 6, 6},
            {32, 5, 9, 9, 9}, {33, 5, 9, 9, 9}, {34, 5, 9, 10, 10}, {40, 5, 9, 14, 12}, {41, 5, 9, 15, 12},
            {999, 5, 9, 15, 12}};
        for (int[] row : gets) {
            for (int scheme = 0; scheme < 4; scheme++) {
                Kit.due("crumbs(" + scheme + ", 15, " + row[0] + ")", x.crumbs(scheme, 15, row[0]), row[scheme + 1]);
            }
        }
        Kit.due("none of them", x.crumbs(0, 14, 99), 0);
        Kit.due("among none", x.crumbs(0, 0, 99), 0);
        Kit.due("alone", x.crumbs(2, 4, 9), 9);
        Kit.work(x, "night;");
        Kit.due("one that does not live", x.crumbs(1, 15, 999), 0);
        Kit.due("and takes nothing from others", x.crumbs(0, 3, 7), 7);
        Kit.missing("crumbs(4, 99, 0)", () -> x.crumbs(4, 99, 0));
        Kit.missing("crumbs(-1, 0, 0)", () -> x.crumbs(-1, 0, 0));
        Kit.illegal("bits of no schemes", () -> x.crumbs(0, 16, 0));
        Kit.illegal("all bits", () -> x.crumbs(0, -1, 0));
        Kit.illegal("the highest bit", () -> x.crumbs(0, Integer.MIN_VALUE, 0));
        Kit.illegal("n above", () -> x.crumbs(0, 15, 1000));
        Kit.illegal("n below", () -> x.crumbs(0, 15, -1));
        IdeaMousers y = Kit.withHouse("room 0;scheme 0 1 0;");
        Kit.work(y, "again 60 [feed 0 60;];");
        for (int n = 1; n <= 512; n *= 2) {
            Kit.due("all to one", y.crumbs(0, 1, n), n);
            Kit.due("all to one", y.crumbs(0, 1, n - 1), n - 1);
        }
        Kit.due("999 to one", y.crumbs(0, 1, 999), 999);
    }
}
