/** Promise 18: LASTS. */
public final class Promise18LastsTest {
    public static void main(String[] args) {
        Kit.run(Promise18LastsTest.class);
    }

    static void noSuchScheme() {
        Kit.missing("lasts(-1)", x -> x.lasts(-1));
        Kit.missing("lasts(4)", x -> x.lasts(4));
        Kit.missing("the least number", x -> x.lasts(Integer.MIN_VALUE));
        Kit.missing("the greatest number", x -> x.lasts(Integer.MAX_VALUE));
    }

    static void nightsBehindWhichItLivesNoMore() {
        IdeaMousers x = Kit.withHouse(Kit.HOUSE);
        Kit.due("one", x.lasts(1), 1);
        Kit.due("two", x.lasts(0), 2);
        Kit.work(x, "night;");
        Kit.due("one is left", x.lasts(0), 1);
    }

    static void upTo99() {
        IdeaMousers x = Kit.withHouse("room 1;scheme 0 1 0;cat 0 0;");
        Kit.law(x, "night/98");
        Kit.due("99", x.lasts(0), 99);
        Kit.law(x, "night/99");
        Kit.due("more", x.lasts(0), -1);
    }

    static void noneIfItLastsForGood() {
        Kit.due("never seen", Kit.withHouse("room 60;scheme 0 1 0;cat 0 20;").lasts(0), -1);
        Kit.due("no cats", Kit.withHouse("room 0;scheme 0 1 9;").lasts(0), -1);
    }

    static void noneIfItDoesNotLive() {
        IdeaMousers x = Kit.withHouse(Kit.HOUSE);
        Kit.work(x, "night;");
        Kit.due("taken", x.lasts(1), -1);
        IdeaMousers y = Kit.withHouse(Kit.HOUSE);
        Kit.work(y, "join 0 1;");
        Kit.due("joined", y.lasts(1), -1);
    }

    static void othersAreTakenAheadOfIt() {
        IdeaMousers x = Kit.withHouse("room 0;scheme 0 1 0;scheme 0 3 0;scheme 0 2 0;cat 0 0;");
        Kit.due("the least last", x.lasts(0), 3);
        Kit.due("the greatest first", x.lasts(1), 1);
    }

    static void beyondNight900Too() {
        IdeaMousers x = Kit.withHouse("room 1;scheme 0 1 0;cat 0 0;");
        for (int i = 0; i < 5; i++) {
            Kit.work(x, "again 60 [again 60 [night;];];");
        }
        Kit.law(x, "night/905");
        Kit.due("in night 905", x.lasts(0), 6);
    }

    static void soManyAsTheHouseHas() {
        Kit.hasSoMany("lasts", 3, (x, scheme) -> x.lasts(scheme));
    }

    static void asksOnly() {
        Kit.asksOnly("lasts(0)", x -> x.lasts(0));
        Kit.asksOnly("lasts(1)", x -> x.lasts(1));
        Kit.asksOnly("lasts(3)", x -> x.lasts(3));
    }
}
