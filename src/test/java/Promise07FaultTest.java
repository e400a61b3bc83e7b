/** Promise 7: the place of the fault of the latest text. */
public final class Promise07FaultTest {
    public static void main(String[] args) {
        Kit.run(Promise07FaultTest.class);
    }

    static void noneAheadOfAnyText() {
        Kit.due("new", new IdeaMousers().fault(), -1);
    }

    static void ofEachKindOfText() {
        IdeaMousers x = Kit.withHouse(Kit.HOUSE);
        Kit.law(x, "1+x");
        Kit.due("law", x.fault(), 2);
        Kit.work(x, "night");
        Kit.due("work", x.fault(), 5);
        Kit.book(x, "3 1;");
        Kit.due("book", x.fault(), 0);
        Kit.house(x, "room 61;");
        Kit.due("house", x.fault(), 5);
    }

    static void noneBehindEachKindOfTextWithout() {
        for (int kind = 0; kind < 4; kind++) {
            IdeaMousers x = Kit.made(Kit::rich);
            Kit.due("ahead", x.fault(), 2);
            int answer = kind == 0 ? Kit.law(x, "1") : kind == 1 ? Kit.work(x, "night;")
                : kind == 2 ? Kit.book(x, "0 1;") : Kit.house(x, "room 1;scheme 0 1 0;");
            Kit.due("a text that stands", answer, 1);
            Kit.due("behind it", x.fault(), -1);
        }
    }

    static void placesAreCountedFrom0ToTheLength() {
        IdeaMousers x = new IdeaMousers();
        Kit.law(x, "x");
        Kit.due("the first byte", x.fault(), 0);
        Kit.house(x, "room 1" + " ".repeat(594));
        Kit.due("the length", x.fault(), 600);
    }

    static void staysWhereALengthIsRefused() {
        Kit.illegal("law", x -> x.law(151));
        Kit.illegal("work", x -> x.work(151));
        Kit.illegal("book", x -> x.book(61));
        Kit.illegal("house", x -> x.house(601));
    }

    static void noneBehindAWorkTooMany() {
        IdeaMousers x = Kit.withHouse("room 0;");
        for (int i = 0; i < 16; i++) {
            x.work(0);
        }
        Kit.law(x, "1+x");
        Kit.due("ahead", x.fault(), 2);
        Kit.due("a 17th work", Kit.work(x, "x"), -20);
        Kit.due("there is no fault", x.fault(), -1);
    }

    static void staysBehindCallsThatReadNoText() {
        IdeaMousers x = Kit.made(Kit::rich);
        x.feed(1, 2, 3, 4, 5);
        x.undo();
        x.restore();
        x.image();
        x.fits(0);
        x.span(1, 20, 9, 9, 0, 0);
        x.slips(0, 3);
        Kit.due("fault", x.fault(), 2);
        Kit.due("asked again", x.fault(), 2);
    }

    static void asksOnly() {
        Kit.asksOnly("fault()", x -> x.fault());
    }
}
