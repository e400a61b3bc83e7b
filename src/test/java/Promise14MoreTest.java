/** Promise 14: by how much a scheme grows. */
public final class Promise14MoreTest {
    public static void main(String[] args) {
        Kit.run(Promise14MoreTest.class);
    }

    static void noSuchScheme() {
        Kit.missing("more(-1)", x -> x.more(-1));
        Kit.missing("more(4)", x -> x.more(4));
        Kit.missing("the least number", x -> x.more(Integer.MIN_VALUE));
        Kit.missing("the greatest number", x -> x.more(Integer.MAX_VALUE));
    }

    static void withoutALawGrow() {
        IdeaMousers x = Kit.withHouse(Kit.HOUSE);
        Kit.due("first", x.more(0), 2);
        Kit.due("last", x.more(3), 3);
    }

    static void is0AtLeast60AtMost() {
        IdeaMousers x = Kit.withHouse("room 0;scheme 0 60 0;scheme 0 1 0;");
        Kit.law(x, "size+1");
        Kit.due("61", x.more(0), 60);
        Kit.law(x, "size-61");
        Kit.due("-1", x.more(0), 0);
        Kit.law(x, "size-scheme");
        Kit.due("60", x.more(0), 60);
        Kit.due("0", x.more(1), 0);
    }

    static void nowByAllThatTheLawNames() {
        IdeaMousers x = Kit.withHouse(Kit.HOUSE);
        Kit.law(x, "size+grow*2+hide-cats*3+night*5+mat*7-scheme*20");
        Kit.due("of the first", x.more(0), 5 + 4 + 10 - 3);
        Kit.work(x, "call 1 0;");
        Kit.due("with a cat more", x.more(0), 5 + 4 + 10 - 6);
        Kit.work(x, "hide 0 1;");
        Kit.due("in another room", x.more(0), 5 + 4 + 20 - 3);
    }

    static void asMuchAsItGrowsInANight() {
        IdeaMousers x = Kit.withHouse(Kit.HOUSE);
        Kit.law(x, "size/3+night*2+mat");
        for (int night = 0; night < 6; night++) {
            int size = x.scheme(3, 1);
            int more = x.more(3);
            Kit.work(x, "night;");
            Kit.due("night " + night, x.scheme(3, 1), size + more);
        }
    }

    static void ofOneThatWasTakenAsItWasLast() {
        IdeaMousers x = Kit.withHouse(Kit.HOUSE);
        Kit.work(x, "call 1 0;");
        Kit.law(x, "size-8+cats+night*10+mat*5");
        Kit.work(x, "night;");
        // Sizes 5, 9 and 15 grew by 0, 3 and 8; both cats of room 0 and that of room 1 took one.
        Kit.due("mat", x.told(6), 7);
        Kit.due("its room and size of then", x.more(1), 12 - 8 + 2 + 10 + 15);
        Kit.work(x, "call 0 1;");
        Kit.due("the cats that are there now", x.more(1), 12 - 8 + 1 + 10 + 15);
    }

    static void ofOneThatWasJoinedAsItWasLast() {
        IdeaMousers x = Kit.withHouse(Kit.HOUSE);
        Kit.law(x, "size+hide+scheme");
        Kit.work(x, "join 0 1;hide 0 1;");
        Kit.due("its room and size of then", x.more(1), 9 + 10 + 1);
    }

    static void soManyAsTheHouseHas() {
        Kit.hasSoMany("more", 3, (x, scheme) -> x.more(scheme));
    }

    static void asksOnly() {
        Kit.asksOnly("more(0)", x -> x.more(0));
        Kit.asksOnly("more(1)", x -> x.more(1));
    }
}
