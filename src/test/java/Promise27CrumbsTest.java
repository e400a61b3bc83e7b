/** Promise 27: CRUMBS. */
public final class Promise27CrumbsTest {
    public static void main(String[] args) {
        Kit.run(Promise27CrumbsTest.class);
    }

    private static void gets(IdeaMousers x, int schemes, int n, int... due) {
        for (int scheme = 0; scheme < due.length; scheme++) {
            Kit.due("crumbs(" + scheme + ", " + schemes + ", " + n + ")", x.crumbs(scheme, schemes, n), due[scheme]);
        }
    }

    static void noSuchScheme() {
        Kit.missing("crumbs(-1, 1, 0)", x -> x.crumbs(-1, 1, 0));
        Kit.missing("crumbs(4, 1, 0)", x -> x.crumbs(4, 1, 0));
        Kit.missing("the least number", x -> x.crumbs(Integer.MIN_VALUE, 1, 0));
        Kit.missing("the greatest number", x -> x.crumbs(Integer.MAX_VALUE, 1, 0));
    }

    static void noSuchSchemeAheadOfOthers() {
        Kit.missing("wrong bits", x -> x.crumbs(4, 16, 0));
        Kit.missing("wrong n", x -> x.crumbs(-1, 1, 1000));
    }

    static void bitsOfNoSchemesAreRefused() {
        Kit.illegal("16 of four", x -> x.crumbs(0, 16, 9));
        Kit.illegal("17 of four", x -> x.crumbs(0, 17, 9));
        Kit.illegal("-1", x -> x.crumbs(0, -1, 9));
        Kit.illegal("the highest bit", x -> x.crumbs(0, Integer.MIN_VALUE, 9));
        Kit.illegal("all but the highest", x -> x.crumbs(0, Integer.MAX_VALUE, 9));
        Kit.illegal("256 of eight", x -> Kit.house(x, "room 0;" + "scheme 0 1 0;".repeat(8)), x -> x.crumbs(0, 256, 9));
    }

    static void bitsOfAllSchemes() {
        gets(Kit.withHouse("room 0;" + "scheme 0 2 0;".repeat(8)), 255, 8, 1, 1, 1, 1, 1, 1, 1, 1);
        gets(Kit.withHouse("room 0;scheme 0 2 0;"), 1, 1, 1);
    }

    static void nIs0To999() {
        Kit.illegal("-1", x -> x.crumbs(0, 15, -1));
        Kit.illegal("1000", x -> x.crumbs(0, 15, 1000));
        Kit.illegal("the least number", x -> x.crumbs(0, 15, Integer.MIN_VALUE));
        Kit.illegal("the greatest number", x -> x.crumbs(0, 15, Integer.MAX_VALUE));
        gets(Kit.withHouse(Kit.HOUSE), 15, 0, 0, 0, 0, 0);
        gets(Kit.withHouse(Kit.HOUSE), 15, 999, 5, 9, 15, 12);
    }

    static void zeroIfItIsNoneOfThem() {
        gets(Kit.withHouse(Kit.HOUSE), 14, 99, 0, 9, 15, 12);
        gets(Kit.withHouse(Kit.HOUSE), 4, 9, 0, 0, 9, 0);
        gets(Kit.withHouse(Kit.HOUSE), 0, 99, 0, 0, 0, 0);
    }

    static void theGreatestBoundByWhichNoMoreThanNAreGiven() {
        IdeaMousers x = Kit.withHouse(Kit.HOUSE);
        gets(x, 15, 3, 0, 0, 0, 0);
        gets(x, 15, 4, 1, 1, 1, 1);
        gets(x, 15, 7, 1, 1, 1, 1);
        gets(x, 15, 8, 2, 2, 2, 2);
        gets(x, 15, 20, 5, 5, 5, 5);
        gets(x, 15, 22, 5, 5, 5, 5);
        gets(x, 15, 23, 5, 6, 6, 6);
        gets(x, 15, 32, 5, 9, 9, 9);
        gets(x, 15, 33, 5, 9, 9, 9);
        gets(x, 15, 34, 5, 9, 10, 10);
    }

    static void allIfTheyAreNoMore() {
        IdeaMousers x = Kit.withHouse(Kit.HOUSE);
        gets(x, 15, 40, 5, 9, 14, 12);
        gets(x, 15, 41, 5, 9, 15, 12);
        gets(x, 15, 42, 5, 9, 15, 12);
    }

    static void whoDoesNotLiveHasNoSize() {
        IdeaMousers x = Kit.withHouse(Kit.HOUSE);
        Kit.work(x, "night;");
        gets(x, 15, 999, 7, 0, 15, 15);
        gets(x, 3, 7, 7, 0);
        gets(x, 3, 6, 6, 0);
        IdeaMousers y = Kit.withHouse(Kit.HOUSE);
        Kit.work(y, "join 0 1;");
        gets(y, 3, 14, 14, 0);
        gets(y, 2, 999, 0, 0);
    }

    static void oneOf999() {
        IdeaMousers y = Kit.withHouse("room 0;scheme 0 1 0;");
        Kit.work(y, "again 60 [feed 0 60;];");
        for (int n = 1; n <= 512; n *= 2) {
            gets(y, 1, n, n);
            gets(y, 1, n - 1, n - 1);
        }
        gets(y, 1, 998, 998);
        gets(y, 1, 999, 999);
    }

    static void eightOf999() {
        IdeaMousers x = Kit.withHouse("room 60;" + "scheme 0 60 9;".repeat(8));
        Kit.law(x, "60");
        Kit.work(x, "again 60 [night;];");
        gets(x, 255, 999, 124, 124, 124, 124, 124, 124, 124, 124);
        gets(x, 3, 999, 499, 499, 0, 0, 0, 0, 0, 0);
    }

    static void soManyAsTheHouseHas() {
        Kit.hasSoMany("crumbs(.., 7, 9)", 3, (x, scheme) -> x.crumbs(scheme, 7, 9));
    }

    static void asksOnly() {
        Kit.asksOnly("crumbs(0, 0, 9)", x -> x.crumbs(0, 0, 9));
        Kit.asksOnly("crumbs(3, 15, 20)", x -> x.crumbs(3, 15, 20));
    }
}
