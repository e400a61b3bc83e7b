/** Promise 13: what is told of a cat. */
public final class Promise13CatTest {
    public static void main(String[] args) {
        Kit.run(Promise13CatTest.class);
    }

    static void noSuchCat() {
        Kit.missing("cat(-1, 0)", x -> x.cat(-1, 0));
        Kit.missing("cat(3, 0)", x -> x.cat(3, 0));
        Kit.missing("the least number", x -> x.cat(Integer.MIN_VALUE, 0));
        Kit.missing("the greatest number", x -> x.cat(Integer.MAX_VALUE, 0));
        Kit.missing("a sixth cat", x -> Kit.house(x, "room 0;" + "cat 0 0;".repeat(5)), x -> x.cat(5, 0));
    }

    static void noSuchCatAheadOfAnotherWhat() {
        Kit.missing("cat(3, 4)", x -> x.cat(3, 4));
        Kit.missing("cat(-1, -1)", x -> x.cat(-1, -1));
    }

    static void anotherWhatIsRefused() {
        Kit.illegal("cat(2, 4)", x -> x.cat(2, 4));
        Kit.illegal("cat(0, -1)", x -> x.cat(0, -1));
        Kit.illegal("the greatest number", x -> x.cat(0, Integer.MAX_VALUE));
        Kit.illegal("the least number", x -> x.cat(0, Integer.MIN_VALUE));
    }

    static void roomAndNose() {
        IdeaMousers x = Kit.withHouse("room 0;room 0;way 0 1;" + "cat 0 0;".repeat(4) + "cat 1 20;");
        Kit.due("room", x.cat(4, 0), 1);
        Kit.due("nose", x.cat(4, 1), 20);
        Kit.due("no nose", x.cat(3, 1), 0);
        Kit.work(x, "call 4 0;");
        Kit.due("room by now", x.cat(4, 0), 0);
        Kit.due("nose stays", x.cat(4, 1), 20);
    }

    static void howManyItTook() {
        IdeaMousers x = Kit.withHouse("room 0;" + "scheme 0 1 0;".repeat(8) + "cat 0 0;");
        for (int night = 0; night <= 8; night++) {
            Kit.due("took", x.cat(0, 2), night);
            Kit.work(x, "night;");
        }
        Kit.due("no more", x.cat(0, 2), 8);
    }

    static void seesSizeAndNoseMoreThanHide() {
        for (int nose = 0; nose <= 20; nose++) {
            IdeaMousers x = Kit.withHouse("room 20;scheme 0 10 0;cat 0 " + nose + ";");
            Kit.due("nose " + nose, x.cat(0, 3), nose > 10 ? 1 : 0);
        }
        Kit.due("60 and 0 of 60", Kit.withHouse("room 60;scheme 0 60 0;cat 0 0;").cat(0, 3), 0);
        Kit.due("60 and 1 of 60", Kit.withHouse("room 60;scheme 0 60 0;cat 0 1;").cat(0, 3), 1);
        Kit.due("1 and 0 of 0", Kit.withHouse("room 0;scheme 0 1 0;cat 0 0;").cat(0, 3), 1);
    }

    static void seesThoseThatLiveInItsRoom() {
        IdeaMousers x = Kit.withHouse("room 0;room 0;way 0 1;scheme 0 1 0;scheme 0 2 0;scheme 1 3 0;scheme 0 4 0;cat 0 0;");
        Kit.due("three", x.cat(0, 3), 11);
        Kit.work(x, "join 1 0;");
        Kit.due("two", x.cat(0, 3), 10);
        Kit.work(x, "night;");
        Kit.due("one", x.cat(0, 3), 2);
        Kit.work(x, "call 0 1;");
        Kit.due("in another room", x.cat(0, 3), 4);
    }

    static void eachCatHasItsOwn() {
        IdeaMousers x = Kit.withHouse("room 0;room 0;room 0;scheme 0 1 0;" + "scheme 1 1 0;".repeat(3)
            + "scheme 2 1 0;".repeat(4) + "cat 0 0;cat 1 0;cat 2 0;");
        int[][] took = {{0, 0, 0}, {1, 1, 1}, {1, 2, 2}, {1, 3, 3}, {1, 3, 4}};
        int[][] sees = {{1, 14, 240}, {0, 12, 224}, {0, 8, 192}, {0, 0, 128}, {0, 0, 0}};
        for (int night = 0; night < 5; night++) {
            for (int cat = 0; cat < 3; cat++) {
                Kit.due("took, cat " + cat + " in night " + night, x.cat(cat, 2), took[night][cat]);
                Kit.due("sees, cat " + cat + " in night " + night, x.cat(cat, 3), sees[night][cat]);
            }
            Kit.work(x, "night;");
        }
    }

    static void soManyAsTheHouseHas() {
        Kit.hasSoMany("cat(.., 3)", 2, (x, cat) -> x.cat(cat, 3));
    }

    static void asksOnly() {
        Kit.asksOnly("cat(0, 3)", x -> x.cat(0, 3));
        Kit.asksOnly("cat(1, 0)", x -> x.cat(1, 0));
    }
}
