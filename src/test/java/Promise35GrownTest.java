/** Promise 35: the size of a scheme behind some nights. */
public final class Promise35GrownTest {
    public static void main(String[] args) {
        Kit.run(Promise35GrownTest.class);
    }

    static void noSuchScheme() {
        Kit.missing("grown(-1, 0)", x -> x.grown(-1, 0));
        Kit.missing("grown(4, 0)", x -> x.grown(4, 0));
        Kit.missing("the least number", x -> x.grown(Integer.MIN_VALUE, 0));
        Kit.missing("the greatest number", x -> x.grown(Integer.MAX_VALUE, 0));
    }

    static void noSuchSchemeAheadOfAWrongNumber() {
        Kit.missing("grown(4, 100)", x -> x.grown(4, 100));
        Kit.missing("grown(-1, -1)", x -> x.grown(-1, -1));
    }

    static void nightsAre0To99() {
        Kit.illegal("-1", x -> x.grown(0, -1));
        Kit.illegal("100", x -> x.grown(0, 100));
        Kit.illegal("the least number", x -> x.grown(0, Integer.MIN_VALUE));
        Kit.illegal("the greatest number", x -> x.grown(0, Integer.MAX_VALUE));
        IdeaMousers x = Kit.withHouse(Kit.HOUSE);
        Kit.due("0", x.grown(3, 0), 12);
        Kit.due("99", x.grown(3, 99), 12 + 297);
    }

    static void noneIfItDoesNotLiveThen() {
        IdeaMousers x = Kit.withHouse(Kit.HOUSE);
        Kit.due("it lives", x.grown(0, 1), 7);
        Kit.due("it is taken", x.grown(0, 2), -1);
        Kit.due("and later", x.grown(0, 99), -1);
    }

    static void noneIfItDoesNotLiveNow() {
        IdeaMousers x = Kit.withHouse(Kit.HOUSE);
        Kit.work(x, "night;");
        Kit.due("taken", x.grown(1, 0), -1);
        IdeaMousers y = Kit.withHouse(Kit.HOUSE);
        Kit.work(y, "join 0 1;");
        Kit.due("joined", y.grown(1, 0), -1);
    }

    static void upTo999() {
        IdeaMousers x = Kit.withHouse("room 0;scheme 0 60 9;");
        Kit.law(x, "60");
        Kit.due("15 nights", x.grown(0, 15), 960);
        Kit.due("16 nights", x.grown(0, 16), 999);
        Kit.due("99 nights", x.grown(0, 99), 999);
    }

    static void beyondNight900Too() {
        IdeaMousers x = Kit.withHouse("room 60;scheme 0 1 0;");
        for (int i = 0; i < 5; i++) {
            Kit.work(x, "again 60 [again 60 [night;];];");
        }
        Kit.law(x, "night/900");
        Kit.due("3 nights", x.grown(0, 3), 4);
        Kit.law(x, "night/902");
        Kit.due("nights are still counted", x.grown(0, 3), 2);
    }

    static void soManyAsTheHouseHas() {
        Kit.hasSoMany("grown(.., 1)", 3, (x, scheme) -> x.grown(scheme, 1));
    }

    static void asksOnly() {
        Kit.asksOnly("grown(3, 99)", x -> x.grown(3, 99));
        Kit.asksOnly("grown(0, 1)", x -> x.grown(0, 1));
    }
}
