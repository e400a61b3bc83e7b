/** Promise 2: twenty bytes come on the tape, up to 600. */
public final class Promise02FeedTest {
    public static void main(String[] args) {
        Kit.run(Promise02FeedTest.class);
    }

    private static void full(IdeaMousers x) {
        Kit.rich(x);
        Kit.put(x, "room 7;" + " ".repeat(593));
    }

    static void answersHowManyThereAre() {
        IdeaMousers x = new IdeaMousers();
        for (int feeds = 1; feeds <= 30; feeds++) {
            Kit.due("feed " + feeds, x.feed(0, 0, 0, 0, 0), 20 * feeds);
            Kit.due("bytes", x.count(1), 20 * feeds);
        }
    }

    static void takesTheHighestByteOfEachNumberFirst() {
        IdeaMousers x = new IdeaMousers();
        // "1+2+3-4*5-6+7*8-9+10"
        x.feed(0x312B322B, 0x332D342A, 0x352D362B, 0x372A382D, 0x392B3130);
        Kit.due("law", x.law(20), 1);
        Kit.due("its value", x.would(0, 0, 0, 0, 0, 0, 0), 37);
    }

    static void takesBytesAbove127() {
        for (int place = 0; place < 4; place++) {
            IdeaMousers x = new IdeaMousers();
            int others = 0x20202020 & ~(0xFF << 24 - 8 * place);
            x.feed(others | 0xA0 << 24 - 8 * place, 0x20202020, -1, -1, -1);
            Kit.due("a byte that is no blank", x.book(8), -9);
            Kit.due("its place", x.fault(), place);
        }
        IdeaMousers y = new IdeaMousers();
        y.feed(0x20202020, 0xB0B1FFFF, 0, 0, 0);
        Kit.due("a byte that is no digit", y.law(8), -9);
        Kit.due("its place", y.fault(), 4);
    }

    static void joinsTheTextsOfSeveralFeeds() {
        IdeaMousers x = new IdeaMousers();
        x.feed(0x20202020, 0x20202020, 0x20202020, 0x20202020, 0x2020726F);
        x.feed(0x6F6D2034, 0x343B0000, 0, 0, 0);
        Kit.due("house", x.house(26), 0);
        Kit.due("room 44", x.room(0, 0), 44);
    }

    static void fillsTheTapeByThirty() {
        IdeaMousers x = new IdeaMousers();
        Kit.put(x, " ".repeat(580));
        Kit.due("the last that has room", x.feed(0x20202020, 0x20202020, 0x20202020, 0x20726F6F, 0x6D20353B), 600);
        Kit.due("its bytes are there", x.house(600), 0);
        Kit.due("the room", x.room(0, 0), 5);
    }

    static void beyond600AnswersNoneAndDoesNothing() {
        Kit.changesNothing("feed beyond 600", Promise02FeedTest::full, x -> x.feed(1, 2, 3, 4, 5), -1);
        IdeaMousers x = Kit.made(Promise02FeedTest::full);
        Kit.due("feed", x.feed(0x21212121, 0x21212121, 0x21212121, 0x21212121, 0x21212121), -1);
        Kit.due("once more", x.feed(0x21212121, 0x21212121, 0x21212121, 0x21212121, 0x21212121), -1);
        Kit.due("bytes", x.count(1), 600);
        Kit.due("they are the same", x.house(600), 0);
        Kit.due("the room", x.room(0, 0), 7);
    }

    static void beginsAnewBehindAText() {
        IdeaMousers x = Kit.made(Promise02FeedTest::full);
        Kit.due("a text", x.book(0), 0);
        Kit.due("the first bytes again", x.feed(0x33202020, 0, 0, 0, 0), 20);
        Kit.due("read from their begin", x.law(4), 1);
        Kit.due("value", x.would(0, 0, 0, 0, 0, 0, 0), 3);
    }

    static void changesNothingButTheTape() {
        IdeaMousers x = Kit.made(Kit::rich);
        Kit.due("feed", x.feed(1, 2, 3, 4, 5), 20);
        Kit.due("place of the fault", x.fault(), 2);
        Kit.due("a text of nothing", x.work(0), 0);
        Kit.due("undone", x.undo(), 3);
        IdeaMousers y = Kit.made(Kit::rich);
        y.work(0);
        y.undo();
        Kit.dueText("all else", Kit.all(x), Kit.all(y));
    }

    static void staysOnTheTapeBehindUndoAndRestore() {
        IdeaMousers x = Kit.made(Kit::richWithTape);
        x.undo();
        x.restore();
        Kit.due("bytes", x.count(1), 20);
        Kit.due("the same", x.house(7), 0);
        Kit.due("room", x.room(0, 0), 7);
    }
}
