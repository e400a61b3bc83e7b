/** Promises 1 to 4, 6 and 7: a new object, the tape, the house, the law, the book, their faults. */
public final class TextTest {
    private static final String EIGHT_ROOMS = "room 0;room 0;room 0;room 0;room 0;room 0;room 0;room 0;";

    public static void main(String[] args) {
        newObject();
        tape();
        lengths();
        houses();
        houseFaults();
        houseBeginsAnew();
        faultKeepsAll();
        lawValues();
        lawFaults();
        books();
        faultPlaces();
        Kit.end("TextTest");
    }

    private static void newObject() {
        IdeaMousers x = new IdeaMousers();
        for (int what = 0; what <= 11; what++) {
            Kit.due("new told(" + what + ")", x.told(what), 0);
        }
        for (int what = 0; what <= 2; what++) {
            Kit.due("new count(" + what + ")", x.count(what), 0);
        }
        Kit.due("new fault", x.fault(), -1);
        Kit.due("new undo", x.undo(), -1);
        Kit.due("new restore", x.restore(), -1);
        Kit.due("new would: grow", x.would(9, 4, 0, 0, 0, 0, 0), 4);
    }

    private static void tape() {
        IdeaMousers x = new IdeaMousers();
        Kit.due("highest first", x.feed(0x726f6f6d, 0x20333b72, 0x6f6f6d20, 0x343b0000, -1), 20);
        Kit.due("house of two rooms", x.house(14), 0);
        Kit.due("its second room", x.room(1, 0), 4);
        Kit.due("tape is empty then", x.count(1), 0);
        for (int feeds = 1; feeds <= 30; feeds++) {
            Kit.due("feed", x.feed(0, 0, 0, 0, 0), 20 * feeds);
        }
        Kit.due("feed beyond 600", x.feed(1, 2, 3, 4, 5), -1);
        Kit.due("it stays", x.count(1), 600);
    }

    private static void lengths() {
        IdeaMousers x = new IdeaMousers();
        Kit.illegal("house(-1)", () -> x.house(-1));
        Kit.illegal("house(1) of nothing", () -> x.house(1));
        Kit.put(x, " ".repeat(200));
        Kit.illegal("house(201)", () -> x.house(201));
        Kit.illegal("law(151)", () -> x.law(151));
        Kit.illegal("work(151)", () -> x.work(151));
        Kit.illegal("book(61)", () -> x.book(61));
        Kit.illegal("law(-1)", () -> x.law(-1));
        Kit.illegal("work(-1)", () -> x.work(-1));
        Kit.illegal("book(-1)", () -> x.book(-1));
        Kit.due("tape stays", x.count(1), 200);
        Kit.due("book(60) of blanks", x.book(60), 0);
        Kit.due("all of the tape is gone", x.count(1), 0);
        Kit.put(x, " ".repeat(160));
        Kit.due("work(150) of blanks", x.work(150), 0);
        Kit.put(x, "7" + " ".repeat(159));
        Kit.due("law(150)", x.law(150), 1);
        Kit.put(x, " ".repeat(600));
        Kit.due("house(600) of blanks", x.house(600), 0);
        Kit.put(x, "sizes");
        Kit.due("what stands behind the text is no part of a word", x.law(4), 1);
        Kit.put(x, "125");
        Kit.due("nor of a number", x.law(2), 1);
        Kit.due("12", x.would(0, 0, 0, 0, 0, 0, 0), 12);
        Kit.put(x, "room 7;");
        Kit.due("house(0)", x.house(0), 0);
        Kit.due("a house without clauses", x.told(0), 0);
    }

    private static void houses() {
        IdeaMousers x = new IdeaMousers();
        Kit.due("blanks where they may be", Kit.house(x, "  room5 ; room  0060;way 0 01;scheme1 060 9 ;cat 1 20;  "), 1);
        Kit.due("hide of 0", x.room(0, 0), 5);
        Kit.due("hide of 1", x.room(1, 0), 60);
        Kit.due("way", x.way(0, 1), 1);
        Kit.due("size", x.scheme(0, 1), 60);
        Kit.due("grow", x.scheme(0, 2), 9);
        Kit.due("nose", x.cat(0, 1), 20);
        StringBuilder full = new StringBuilder(EIGHT_ROOMS);
        full.append("way 0 7;".repeat(12)).append("scheme 7 1 0;".repeat(8)).append("cat 7 0;".repeat(5));
        Kit.due("a full house", Kit.house(x, full.toString()), 8);
        Kit.due("rooms", x.told(0), 8);
        Kit.due("ways", x.told(1), 12);
        Kit.due("schemes", x.told(2), 8);
        Kit.due("cats", x.told(3), 5);
    }

    private static void houseFault(String text, int answer, int place) {
        IdeaMousers x = Kit.withHouse("room 1;");
        Kit.due("house <" + text + ">", Kit.house(x, text), answer);
        Kit.due("fault of <" + text + ">", x.fault(), place);
        Kit.due("all stays by <" + text + ">", x.told(0), 1);
        Kit.due("tape is empty by <" + text + ">", x.count(1), 0);
    }

    private static void houseFaults() {
        houseFault("room", -9, 4);
        houseFault("room  ", -9, 6);
        houseFault("room ;", -9, 5);
        houseFault("room 1;;", -9, 7);
        houseFault("room 1 2;", -9, 7);
        houseFault("room 1x;", -9, 6);
        houseFault("room -1;", -9, 5);
        houseFault("Room 1;", -9, 0);
        houseFault("\troom 1;", -9, 0);
        houseFault("room\u00001;", -9, 4);
        houseFault("  rum 1;", -9, 2);
        houseFault("roo", -9, 0);
        houseFault("rooma 1;", -9, 0);
        houseFault("roomz 1;", -9, 0);
        houseFault("room 61", -8, 5);
        houseFault("room 99999999999999999999;", -8, 5);
        houseFault("room 4294967296;", -8, 5);
        houseFault("room 1;way 0;", -9, 12);
        houseFault("room 1;way 1 0;", -8, 11);
        houseFault("room 1;way 0 1;", -8, 13);
        houseFault("room 1;room 1;way 1 1;", -8, 20);
        houseFault("room 1;room 1;way 01;", -9, 20);
        houseFault("room 1;scheme 1 1 1;", -8, 14);
        houseFault("room 1;scheme 0 1;", -9, 17);
        houseFault("room 1;scheme 0 0 0;", -8, 16);
        houseFault("room 1;scheme 0 61 0;", -8, 16);
        houseFault("room 1;scheme 0 60 10;", -8, 19);
        houseFault("room 1;cat 1 0;", -8, 11);
        houseFault("room 1;cat 0 21;", -8, 13);
        houseFault(EIGHT_ROOMS + "room x", -7, 56);
        houseFault(EIGHT_ROOMS + "rooms", -9, 56);
        houseFault(EIGHT_ROOMS + "way 0 1;".repeat(12) + " way", -7, 153);
        houseFault("room 0;" + "scheme 0 1 1;".repeat(8) + "scheme;", -7, 111);
        houseFault("room 0;" + "cat 0 1;".repeat(5) + "cat 0 99;", -7, 47);
    }

    private static void houseBeginsAnew() {
        IdeaMousers x = Kit.withHouse(Kit.HOUSE);
        Kit.law(x, "60");
        Kit.book(x, "0 1;");
        Kit.work(x, "night;join 0 0;shut 0;");
        Kit.due("image", x.image(), 1);
        Kit.due("refused", x.told(10), 1);
        Kit.due("house again", Kit.house(x, Kit.HOUSE), 4);
        Kit.due("night 0", x.told(4), 0);
        Kit.due("all live", x.told(5), 15);
        Kit.due("mat is bare", x.told(6), 0);
        Kit.due("ways are open", x.told(8), 0);
        Kit.due("no book", x.told(9), 0);
        Kit.due("none refused", x.told(10), 0);
        Kit.due("no law", x.more(0), 2);
        Kit.due("no images", x.count(0), 0);
        Kit.due("nothing to undo", x.undo(), -1);
        Kit.due("nobody took", x.proudest(0), -1);
    }

    private static void faultKeepsAll() {
        IdeaMousers x = Kit.withHouse(Kit.HOUSE);
        Kit.law(x, "7");
        Kit.book(x, "0 1;2 0;");
        Kit.work(x, "night;night;");
        x.image();
        Kit.due("wrong house", Kit.house(x, "room 0;room 99;"), -8);
        Kit.due("wrong law", Kit.law(x, "9+"), -9);
        Kit.due("wrong book", Kit.book(x, "1 1;1 0;"), -8);
        Kit.due("wrong work", Kit.work(x, "shut 0;shut 9;"), -8);
        Kit.due("rooms stay", x.told(0), 4);
        Kit.due("night stays", x.told(4), 2);
        Kit.due("ways stay open", x.told(8), 0);
        Kit.due("book stays", x.told(9), 2);
        Kit.due("law stays", x.more(3), 7);
        Kit.due("images stay", x.count(0), 1);
        Kit.due("works stay", x.count(2), 1);
    }

    private static void lawIs(String text, int value) {
        IdeaMousers x = new IdeaMousers();
        Kit.due("law <" + text + ">", Kit.law(x, text), 1);
        Kit.due("fault of <" + text + ">", x.fault(), -1);
        Kit.due("value of <" + text + ">", x.would(10, 3, 20, 2, 7, 1, 5), value);
    }

    private static void lawValues() {
        lawIs("size", 10);
        lawIs("grow", 3);
        lawIs("hide", 20);
        lawIs("cats", 2);
        lawIs("night", 7);
        lawIs("mat", 1);
        lawIs("scheme", 5);
        lawIs("2+3*4", 14);
        lawIs(" ( 2 + 3 ) * 4 ", 20);
        lawIs("20-3-2", 15);
        lawIs("40/4/2", 5);
        lawIs("7%4*2", 6);
        lawIs("2*7%4", 2);
        lawIs("least[3,4]", 3);
        lawIs("most [ 3 , 4 ]", 4);
        lawIs("least[size,most[grow,night]]*2", 14);
        lawIs("0-5", 0);
        lawIs("0-5+6", 1);
        lawIs("60", 60);
        lawIs("61", 60);
        lawIs("00999", 60);
        lawIs("7/0+1", 1);
        lawIs("7%0+2", 2);
        lawIs("(0-7)/2+10", 7);
        lawIs("(0-7)%3+10", 9);
        lawIs("7%(0-3)+10", 11);
        lawIs("999*999*999*999", 0);
        lawIs("(0-999*999*999*999)%50", 21);
        lawIs("(512*512*512*16)/(0-1)%60+30", 22);
        lawIs("(512*512*512*16)%(0-1)+3", 3);
        lawIs("((((((6))))))", 6);
        lawIs("least[least[most[most[most[(1),1],1],8],7],9]", 7);
        lawIs("(1)+(1)+(1)+(1)+(1)+(1)+(1)+(1)", 8);
        lawIs("1+2*least[3,1+2*least[9,1+2*least[9,1+2*least[9,1+2*least[9,1+2*most[1,1+2*2]]]]]]", 7);
    }

    private static void lawFault(String text, int answer, int place) {
        IdeaMousers x = new IdeaMousers();
        Kit.law(x, "17");
        Kit.due("law <" + text + ">", Kit.law(x, text), answer);
        Kit.due("fault of <" + text + ">", x.fault(), place);
        Kit.due("law stays by <" + text + ">", x.would(0, 0, 0, 0, 0, 0, 0), 17);
        Kit.due("tape is empty by <" + text + ">", x.count(1), 0);
    }

    private static void lawFaults() {
        lawFault("", -9, 0);
        lawFault("   ", -9, 3);
        lawFault("size size", -9, 5);
        lawFault("1 2", -9, 2);
        lawFault("(1", -9, 2);
        lawFault("1)", -9, 1);
        lawFault("()", -9, 1);
        lawFault("+1", -9, 0);
        lawFault("1+ ", -9, 3);
        lawFault("1++1", -9, 2);
        lawFault("1;", -9, 1);
        lawFault("Size", -9, 0);
        lawFault("room", -9, 0);
        lawFault("size1", -9, 4);
        lawFault("least", -9, 5);
        lawFault("least(1,2)", -9, 5);
        lawFault("least[1;2]", -9, 7);
        lawFault("most[1,2", -9, 8);
        lawFault("most[1,2)", -9, 8);
        lawFault("most[,2]", -9, 5);
        lawFault("1000", -8, 0);
        lawFault("5+01000)", -8, 2);
        lawFault("((((((( ", -7, 6);
        lawFault("((((((least", -7, 6);
        lawFault("((((((most", -7, 6);
        lawFault("((((((leasts", -9, 6);
        lawFault("most[((((((1)))))),1]", -7, 10);
        lawFault("least[1,((((((1))))))]", -7, 13);
        lawFault("1+least[least[least[most[most[((1)),1],1],1],1],1]", -7, 31);
        lawFault("((((((1))))))+(((((((1)))))))", -7, 20);
    }

    private static void bookIs(String text, int answer, int place) {
        IdeaMousers x = Kit.withHouse(Kit.HOUSE);
        Kit.book(x, "2 0;");
        Kit.due("book <" + text + ">", Kit.book(x, text), answer);
        Kit.due("fault of <" + text + ">", x.fault(), place);
        Kit.due("lines by <" + text + ">", x.told(9), answer < 0 ? 1 : answer);
        Kit.due("tape is empty by <" + text + ">", x.count(1), 0);
    }

    private static void books() {
        bookIs("", 0, -1);
        bookIs("0 1;2 0;", 2, -1);
        bookIs(" 1 1 ; ", 1, -1);
        bookIs("2 0;1 1;0 0;", 3, -1);
        bookIs("0 1;0 0;", -8, 4);
        bookIs("0 1;1 1;0 9", -8, 8);
        bookIs("3 1;", -8, 0);
        bookIs("0 2;", -8, 2);
        bookIs("0 1", -9, 3);
        bookIs("0;", -9, 1);
        bookIs("01;", -9, 2);
        bookIs("a 1;", -9, 0);
        bookIs("0 1;;", -9, 4);
        IdeaMousers x = Kit.withHouse("room 0;");
        Kit.due("book without cats", Kit.book(x, "0 1;"), -8);
        Kit.due("its fault", x.fault(), 0);
    }

    private static void faultPlaces() {
        IdeaMousers x = new IdeaMousers();
        Kit.law(x, "1+x");
        Kit.due("place", x.fault(), 2);
        Kit.illegal("law(9)", () -> x.law(9));
        Kit.due("no text, so the place stays", x.fault(), 2);
        Kit.due("book", Kit.book(x, ""), 0);
        Kit.due("without", x.fault(), -1);
    }
}
