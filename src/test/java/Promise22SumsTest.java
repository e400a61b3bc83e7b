/** Promise 22: SUMS. */
public final class Promise22SumsTest {
    public static void main(String[] args) {
        Kit.run(Promise22SumsTest.class);
    }

    static void noSuchRoom() {
        Kit.missing("sums(-1, 0)", x -> x.sums(-1, 0));
        Kit.missing("sums(4, 0)", x -> x.sums(4, 0));
        Kit.missing("the least number", x -> x.sums(Integer.MIN_VALUE, 0));
        Kit.missing("the greatest number", x -> x.sums(Integer.MAX_VALUE, 0));
    }

    static void noSuchRoomAheadOfAWrongNumber() {
        Kit.missing("sums(4, 1000)", x -> x.sums(4, 1000));
        Kit.missing("sums(-1, -1)", x -> x.sums(-1, -1));
    }

    static void numbersAre0To999() {
        Kit.illegal("-1", x -> x.sums(0, -1));
        Kit.illegal("1000", x -> x.sums(0, 1000));
        Kit.illegal("the least number", x -> x.sums(0, Integer.MIN_VALUE));
        Kit.illegal("the greatest number", x -> x.sums(0, Integer.MAX_VALUE));
        IdeaMousers x = Kit.withHouse("room 60;scheme 0 60 0;scheme 0 60 0;scheme 0 1 0;");
        Kit.work(x, "again 60 [feed 0 60;];again 15 [feed 1 60;];feed 1 38;");
        Kit.due("999 by one, and by 998 and 1", x.sums(0, 999), 2);
    }

    static void theEmptySetBy0() {
        IdeaMousers x = Kit.withHouse("room 0;room 0;scheme 0 1 0;");
        Kit.due("with one that lives", x.sums(0, 0), 1);
        Kit.due("in an empty room", x.sums(1, 0), 1);
        Kit.due("no more there", x.sums(1, 1), 0);
    }

    static void howManySets() {
        IdeaMousers x = Kit.withHouse("room 0;room 60;" + "scheme 0 5 0;".repeat(8));
        int[] choices = {1, 8, 28, 56, 70, 56, 28, 8, 1};
        for (int many = 0; many <= 8; many++) {
            Kit.due("of " + many, x.sums(0, 5 * many), choices[many]);
        }
        Kit.due("by none", x.sums(0, 3), 0);
        Kit.due("too much", x.sums(0, 45), 0);
    }

    static void ofOneRoomAlone() {
        IdeaMousers x = Kit.withHouse("room 0;room 60;scheme 0 5 0;scheme 1 5 0;scheme 1 5 0;");
        Kit.due("room 0", x.sums(0, 5), 1);
        Kit.due("room 1", x.sums(1, 5), 2);
        Kit.due("not of both", x.sums(0, 10), 0);
    }

    static void ofThoseThatLive() {
        IdeaMousers x = Kit.withHouse("room 0;" + "scheme 0 5 0;".repeat(7));
        Kit.work(x, "join 0 1;join 0 2;");
        Kit.due("15 by one, or by three of four", x.sums(0, 15), 1 + 4);
        IdeaMousers y = Kit.withHouse("room 0;scheme 0 5 0;cat 0 0;");
        Kit.work(y, "night;");
        Kit.due("a taken one", y.sums(0, 5), 0);
    }

    static void soManyAsTheHouseHas() {
        Kit.hasSoMany("sums(.., 0)", 5, (x, room) -> x.sums(room, 0));
    }

    static void asksOnly() {
        Kit.asksOnly("sums(0, 0)", x -> x.sums(0, 0));
        Kit.asksOnly("sums(1, 18)", x -> x.sums(1, 18));
    }
}
