/** Promise 37: the size of all schemes that live in a room. */
public final class Promise37WeightTest {
    public static void main(String[] args) {
        Kit.run(Promise37WeightTest.class);
    }

    static void noSuchRoom() {
        Kit.missing("weight(-1)", x -> x.weight(-1));
        Kit.missing("weight(4)", x -> x.weight(4));
        Kit.missing("the least number", x -> x.weight(Integer.MIN_VALUE));
        Kit.missing("the greatest number", x -> x.weight(Integer.MAX_VALUE));
    }

    static void ofEachRoom() {
        IdeaMousers x = Kit.withHouse(Kit.HOUSE);
        int[] due = {14, 15, 0, 12};
        for (int room = 0; room < 4; room++) {
            Kit.due("weight(" + room + ")", x.weight(room), due[room]);
        }
    }

    static void ofThoseThatLive() {
        IdeaMousers x = Kit.withHouse(Kit.HOUSE);
        Kit.work(x, "night;");
        Kit.due("a taken one is not", x.weight(0), 7);
        Kit.work(x, "night;");
        Kit.due("none", x.weight(0), 0);
        IdeaMousers y = Kit.withHouse("room 0;scheme 0 1 0;scheme 0 2 0;");
        Kit.work(y, "feed 1 5;join 0 1;feed 0 1;");
        Kit.due("a joined one is not", y.weight(0), 9);
    }

    static void eightOf999() {
        IdeaMousers x = Kit.withHouse("room 60;" + "scheme 0 60 9;".repeat(8));
        Kit.law(x, "60");
        Kit.work(x, "again 60 [night;];");
        Kit.due("all", x.weight(0), 8 * 999);
    }

    static void soManyAsTheHouseHas() {
        Kit.hasSoMany("weight", 5, (x, room) -> x.weight(room));
    }

    static void asksOnly() {
        Kit.asksOnly("weight(1)", x -> x.weight(1));
    }
}
