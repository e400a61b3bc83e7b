/** Promise 12: what is told of a scheme. */
public final class Promise12SchemeTest {
    public static void main(String[] args) {
        Kit.run(Promise12SchemeTest.class);
    }

    static void noSuchScheme() {
        Kit.missing("scheme(-1, 0)", x -> x.scheme(-1, 0));
        Kit.missing("scheme(4, 0)", x -> x.scheme(4, 0));
        Kit.missing("the least number", x -> x.scheme(Integer.MIN_VALUE, 0));
        Kit.missing("the greatest number", x -> x.scheme(Integer.MAX_VALUE, 0));
        Kit.missing("a ninth scheme", x -> Kit.house(x, "room 0;" + "scheme 0 1 1;".repeat(8)), x -> x.scheme(8, 0));
    }

    static void noSuchSchemeAheadOfAnotherWhat() {
        Kit.missing("scheme(4, 6)", x -> x.scheme(4, 6));
        Kit.missing("scheme(-1, -1)", x -> x.scheme(-1, -1));
    }

    static void anotherWhatIsRefused() {
        Kit.illegal("scheme(3, 6)", x -> x.scheme(3, 6));
        Kit.illegal("scheme(0, -1)", x -> x.scheme(0, -1));
        Kit.illegal("the greatest number", x -> x.scheme(0, Integer.MAX_VALUE));
        Kit.illegal("the least number", x -> x.scheme(0, Integer.MIN_VALUE));
    }

    private static void is(IdeaMousers x, int scheme, int... due) {
        for (int what = 0; what < due.length; what++) {
            Kit.due("scheme(" + scheme + ", " + what + ")", x.scheme(scheme, what), due[what]);
        }
    }

    static void oneThatLives() {
        is(Kit.withHouse(Kit.HOUSE), 3, 3, 12, 3, 1, -1, -1);
        is(Kit.withHouse("room 0;room 0;" + "scheme 0 1 0;".repeat(7) + "scheme 1 60 9;"), 7, 1, 60, 9, 1, -1, -1);
    }

    static void oneThatWasTakenAsItWasLast() {
        IdeaMousers x = Kit.withHouse(Kit.HOUSE);
        Kit.work(x, "call 2 0;night;night;night;");
        is(x, 0, 0, 9, 2, 0, 1, 0);
        is(x, 1, 0, 10, 1, 0, 0, 0);
    }

    static void oneThatHidAndWasTaken() {
        IdeaMousers x = Kit.withHouse(Kit.HOUSE);
        Kit.work(x, "night;night;hide 3 2;night;night;");
        is(x, 3, 2, 21, 3, 0, 2, 1);
    }

    static void oneThatWasJoinedWasNotTaken() {
        IdeaMousers x = Kit.withHouse(Kit.HOUSE);
        Kit.work(x, "hide 2 2;hide 3 2;join 3 2;hide 3 3;night;");
        is(x, 2, 2, 15, 0, 0, -1, -1);
        is(x, 3, 3, 30, 3, 1, -1, -1);
    }

    static void takenByTheLastCatInALateNight() {
        IdeaMousers x = Kit.withHouse("room 0;room 0;way 0 1;scheme 1 1 0;" + "cat 0 0;".repeat(5));
        Kit.work(x, "again 40 [night;];call 4 1;night;");
        is(x, 0, 1, 1, 0, 0, 40, 4);
    }

    static void eachHasItsOwnNightAndCat() {
        // In night 0 the last one is taken, in night 7 the first; each by another cat than the one before.
        StringBuilder work = new StringBuilder();
        for (int scheme = 7; scheme >= 0; scheme--) {
            work.append("hide " + scheme + " " + (scheme + 3) % 5 + ";night;");
        }
        IdeaMousers x = Kit.withHouse("room 0;room 0;room 0;room 0;room 0;room 0;way 5 0;way 5 1;way 5 2;way 5 3;way 5 4;"
            + "scheme 5 1 0;".repeat(8) + "cat 0 0;cat 1 0;cat 2 0;cat 3 0;cat 4 0;");
        Kit.due("steps", Kit.work(x, work.toString()), 16);
        for (int scheme = 0; scheme < 8; scheme++) {
            is(x, scheme, (scheme + 3) % 5, 1, 0, 0, 7 - scheme, (scheme + 3) % 5);
        }
        for (int cat = 0; cat < 5; cat++) {
            Kit.due("cat " + cat + " is where it was", x.cat(cat, 0), cat);
        }
    }

    static void sizeUpTo999() {
        IdeaMousers x = Kit.withHouse("room 0;scheme 0 60 9;");
        Kit.work(x, "again 60 [feed 0 60;];");
        is(x, 0, 0, 999, 9, 1, -1, -1);
    }

    static void soManyAsTheHouseHas() {
        Kit.hasSoMany("scheme(.., 5)", 3, (x, scheme) -> x.scheme(scheme, 5));
    }

    static void asksOnly() {
        Kit.asksOnly("scheme(1, 4)", x -> x.scheme(1, 4));
        Kit.asksOnly("scheme(2, 1)", x -> x.scheme(2, 1));
    }
}
