/** Promises 5 and 8: steps done and refused, loops, limits, undo. */
public final class WorkTest {
    public static void main(String[] args) {
        faults();
        hides();
        calls();
        feeds();
        joins();
        nights();
        growth();
        agains();
        stepsBegun();
        lastNight();
        sixteenWorks();
        undoes();
        Kit.end("WorkTest");
    }

    private static void fault(String text, int answer, int place) {
        IdeaMousers x = Kit.withHouse(Kit.HOUSE);
        Kit.due("work <" + text + ">", Kit.work(x, text), answer);
        Kit.due("fault of <" + text + ">", x.fault(), place);
        Kit.due("none done by <" + text + ">", x.told(4) + x.told(8), 0);
        Kit.due("nothing to undo by <" + text + ">", x.count(2), 0);
        Kit.due("tape is empty by <" + text + ">", x.count(1), 0);
    }

    private static void faults() {
        fault("night;night", -9, 11);
        fault("night;nights;", -9, 6);
        fault("shut 0;]", -9, 7);
        fault("shut;", -9, 4);
        fault("night 1;", -9, 6);
        fault("hide 0;", -9, 6);
        fault("hide 4 0;", -8, 5);
        fault("hide 0 4;", -8, 7);
        fault("call 3 0;", -8, 5);
        fault("call 0 4;", -8, 7);
        fault("feed 4 1;", -8, 5);
        fault("feed 0 0;", -8, 7);
        fault("feed 0 61;", -8, 7);
        fault("join 4 0;", -8, 5);
        fault("join 0 4;", -8, 7);
        fault("shut 4;", -8, 5);
        fault("again 61 [];", -8, 6);
        fault("again [];", -9, 6);
        fault("again 2 night;", -9, 8);
        fault("again 2 [night];", -9, 14);
        fault("again 2 [night;]", -9, 16);
        fault("again 2 [night;", -9, 15);
        fault("again 2 [;];", -9, 9);
        fault("night;again 1[again 1[again 1[again 1[again 1[again 1[again 99", -7, 54);
        fault("night;again 1[again 1[again 1[again 1[again 1[again 1[agains", -9, 54);
        IdeaMousers x = Kit.withHouse(Kit.HOUSE);
        Kit.due("six agains", Kit.work(x, "again 1[again 2[again 1[again 1[again 1[again 1[night;];];];];];];"), 2);
        Kit.due("seven side by side", Kit.work(x, "again 1[];".repeat(7) + "shut 0;"), 1);
    }

    private static void hides() {
        IdeaMousers x = Kit.withHouse(Kit.HOUSE);
        Kit.due("by a way", Kit.work(x, "hide 0 1;"), 1);
        Kit.due("it is there", x.scheme(0, 0), 1);
        Kit.due("no way", Kit.work(x, "hide 0 3;"), 0);
        Kit.due("refused", x.told(10), 1);
        Kit.due("to its own room", Kit.work(x, "hide 0 1;"), 0);
        Kit.due("by the way back", Kit.work(x, "hide 0 0;"), 1);
        Kit.due("a shut way", Kit.work(x, "shut 0;hide 0 1;hide 0 2;hide 0 1;"), 3);
        Kit.due("refused one", x.told(10), 1);
        Kit.due("round about", x.scheme(0, 0), 1);
        Kit.due("one that does not live", Kit.work(x, "night;hide 1 2;hide 3 2;hide 3 3;"), 3);
        Kit.due("refused one again", x.told(10), 1);
    }

    private static void calls() {
        IdeaMousers x = Kit.withHouse(Kit.HOUSE);
        Kit.due("calls", Kit.work(x, "call 0 3;call 0 2;call 0 3;call 0 3;shut 3;call 0 2;"), 3);
        Kit.due("its room", x.cat(0, 0), 3);
        Kit.due("refused", x.told(10), 3);
    }

    private static void feeds() {
        IdeaMousers x = Kit.withHouse("room 60;scheme 0 5 0;");
        Kit.due("seventeen feeds to 999", Kit.work(x, "again 60 [feed 0 60;];"), 17);
        Kit.due("the rest refused", x.told(10), 43);
        Kit.due("999 at most", x.scheme(0, 1), 999);
        IdeaMousers y = Kit.withHouse("room 0;scheme 0 5 0;cat 0 0;");
        Kit.due("a dead one", Kit.work(y, "feed 0 7;night;feed 0 7;"), 2);
        Kit.due("its last size", y.scheme(0, 1), 12);
    }

    private static void joins() {
        IdeaMousers x = Kit.withHouse(Kit.HOUSE);
        Kit.due("joins", Kit.work(x, "join 0 0;join 0 2;join 1 0;join 1 0;join 0 1;"), 1);
        Kit.due("refused", x.told(10), 4);
        Kit.due("the first is greater", x.scheme(1, 1), 14);
        Kit.due("joined", x.told(7), 1);
        Kit.due("not on the mat", x.told(6), 0);
        Kit.due("lives no more", x.told(5), 14);
        Kit.due("was not taken", x.scheme(0, 4), -1);
        Kit.due("by none", x.scheme(0, 5), -1);
        Kit.due("its last size", x.scheme(0, 1), 5);
        IdeaMousers y = Kit.withHouse("room 60;scheme 0 60 0;scheme 0 60 0;");
        Kit.work(y, "again 60 [feed 0 60;];again 60 [feed 1 30;];");
        Kit.due("joined at 999", Kit.work(y, "join 0 1;"), 1);
        Kit.due("999 at most", y.scheme(0, 1), 999);
    }

    private static void nights() {
        IdeaMousers x = Kit.withHouse(Kit.HOUSE);
        Kit.due("a night", Kit.work(x, "night;"), 1);
        Kit.due("is one more", x.told(4), 1);
        Kit.due("size of the taken one", x.scheme(1, 1), 10);
        Kit.due("others grew", x.told(11), 7 + 15 + 15);
        Kit.due("in night 0", x.scheme(1, 4), 0);
        Kit.due("by the first cat", x.scheme(1, 5), 0);
        Kit.due("on the mat", x.told(6), 2);
        Kit.due("two nights more", Kit.work(x, "night;night;"), 2);
        Kit.due("in night 1", x.scheme(0, 4), 1);
        Kit.due("size of it", x.scheme(0, 1), 9);
        Kit.due("it took two", x.cat(0, 2), 2);
        // Alike ones: the first; each cat takes one, the second cat of what is left.
        IdeaMousers y = Kit.withHouse("room 0;scheme 0 3 0;scheme 0 9 0;scheme 0 9 0;scheme 0 8 0;cat 0 0;cat 0 0;");
        Kit.work(y, "night;");
        Kit.due("taken by the first", y.scheme(1, 5), 0);
        Kit.due("taken by the second", y.scheme(2, 5), 1);
        Kit.due("two live", y.told(5), 9);
        // SIZE and NOSE together must be more than HIDE, behind the growth.
        IdeaMousers z = Kit.withHouse("room 20;scheme 0 8 1;cat 0 10;");
        Kit.due("18 of 20", z.cat(0, 3), 0);
        Kit.work(z, "night;night;");
        Kit.due("20 of 20", z.told(5), 1);
        Kit.work(z, "night;");
        Kit.due("21 of 20", z.told(5), 0);
    }

    private static void growth() {
        IdeaMousers x = Kit.withHouse("room 60;room 10;scheme 0 60 9;scheme 0 1 0;scheme 1 1 0;cat 1 20;");
        Kit.law(x, "60-59*scheme+mat*100");
        Kit.work(x, "night;");
        Kit.due("grown by 60", x.scheme(0, 1), 120);
        Kit.due("by 1", x.scheme(1, 1), 2);
        Kit.due("by 0 at least", x.scheme(2, 1), 1);
        Kit.work(x, "night;");
        Kit.due("the mat was told ahead of the night", x.scheme(1, 1), 62);
        Kit.work(x, "again 20 [night;];");
        Kit.due("999 at most", x.scheme(0, 1), 999);
    }

    private static void agains() {
        IdeaMousers x = Kit.withHouse("room 60;scheme 0 1 0;");
        Kit.due("twice three times", Kit.work(x, "again 2 [feed 0 1;again 3 [night;];];feed 0 5;"), 2 + 6 + 1);
        Kit.due("nights", x.told(4), 6);
        Kit.due("size", x.scheme(0, 1), 8);
        Kit.due("again 0", Kit.work(x, "again 0 [night;];"), 0);
        Kit.due("no night", x.told(4), 6);
        Kit.due("none refused", x.told(10), 0);
    }

    private static void stepsBegun() {
        IdeaMousers x = Kit.withHouse("room 60;scheme 0 1 0;");
        Kit.due("195 nights", Kit.work(x, "again 60 [again 60 [night;];];night;"), 195);
        Kit.due("by now", x.told(4), 195);
        Kit.due("empty agains", Kit.work(x, "again 60[again 60[again 60[];];];night;"), 0);
        Kit.due("left out", x.told(4), 195);
        Kit.due("refused ones", Kit.work(x, "again 60[join 0 0;];".repeat(4) + "night;"), 0);
        Kit.due("196 of them", x.told(10), 196);
        Kit.due("25 steps", Kit.work(x, "night;".repeat(25)), 25);
        Kit.due("the 200th is done", Kit.work(x, "again 60[night;];".repeat(3) + "again 15[night;];night;night;"), 196);
    }

    private static void lastNight() {
        IdeaMousers x = Kit.withHouse("room 60;scheme 0 1 0;");
        Kit.law(x, "night/900");
        for (int i = 0; i < 4; i++) {
            Kit.due("195 nights", Kit.work(x, "again 60 [again 60 [night;];];"), 195);
        }
        Kit.due("the last ones", Kit.work(x, "again 60 [again 60 [night;];];"), 120);
        Kit.due("refused", x.told(10), 75);
        Kit.due("night 900", x.told(4), 900);
        Kit.due("night refused", Kit.work(x, "night;"), 0);
        Kit.due("asked, it goes on", x.grown(0, 3), 4);
        Kit.due("the size stays", x.scheme(0, 1), 1);
    }

    private static void sixteenWorks() {
        IdeaMousers x = Kit.withHouse(Kit.HOUSE);
        for (int i = 0; i < 16; i++) {
            Kit.due("empty work", x.work(0), 0);
            Kit.due("works", x.count(2), i + 1);
        }
        Kit.work(x, "join 0 0;");
        Kit.law(x, "+");
        Kit.due("fault", x.fault(), 0);
        Kit.due("a 17th", Kit.work(x, "night;x"), -20);
        Kit.due("no fault", x.fault(), -1);
        Kit.due("tape is empty", x.count(1), 0);
        Kit.due("nothing was done", x.told(4), 0);
        Kit.illegal("its length is looked at first", () -> x.work(1));
        Kit.due("undo", x.undo(), 15);
        Kit.due("now there is room", Kit.work(x, "night;"), 1);
        Kit.due("for one", Kit.work(x, ""), -20);
    }

    private static void undoes() {
        IdeaMousers x = Kit.withHouse(Kit.HOUSE);
        Kit.work(x, "shut 0;join 0 1;call 1 3;feed 2 9;join 0 0;");
        Kit.work(x, "again 3 [night;];hide 3 2;join 1 1;");
        Kit.due("refused", x.told(10), 1);
        Kit.due("taken", x.told(6), 1 + 4);
        Kit.due("undo", x.undo(), 1);
        Kit.due("none refused", x.told(10), 0);
        Kit.due("night", x.told(4), 0);
        Kit.due("mat", x.told(6), 0);
        Kit.due("joined", x.told(7), 2);
        Kit.due("shut", x.told(8), 1);
        Kit.due("took", x.proudest(1), -1);
        Kit.due("by none", x.scheme(0, 5), -1);
        Kit.due("undo the first", x.undo(), 0);
        Kit.due("all live", x.told(5), 15);
        Kit.due("sizes", x.told(11), 41);
        Kit.due("open", x.told(8), 0);
        Kit.due("the cat", x.cat(1, 0), 2);
        Kit.due("nothing left", x.undo(), -1);
    }
}
