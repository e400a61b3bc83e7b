/** Promise 19: SLIPS. */
public final class Promise19SlipsTest {
    private static final String LINE = "room 0;room 0;room 0;room 0;way 0 1;way 2 1;way 2 3;";

    public static void main(String[] args) {
        Kit.run(Promise19SlipsTest.class);
    }

    static void noSuchSchemeOrRoom() {
        Kit.missing("slips(-1, 0)", x -> x.slips(-1, 0));
        Kit.missing("slips(4, 0)", x -> x.slips(4, 0));
        Kit.missing("slips(0, -1)", x -> x.slips(0, -1));
        Kit.missing("slips(0, 4)", x -> x.slips(0, 4));
        Kit.missing("slips(4, 4)", x -> x.slips(4, 4));
        Kit.missing("wild numbers", x -> x.slips(Integer.MIN_VALUE, Integer.MAX_VALUE));
        Kit.missing("a dead one and no such room", x -> { Kit.house(x, Kit.HOUSE); Kit.work(x, "night;"); }, x -> x.slips(1, 4));
    }

    static void zeroIfItIsThere() {
        IdeaMousers x = Kit.withHouse("room 0;scheme 0 60 0;cat 0 20;");
        Kit.due("though a cat sees it", x.slips(0, 0), 0);
    }

    static void oneWayANight() {
        IdeaMousers x = Kit.withHouse(LINE + "scheme 0 1 0;scheme 2 1 0;");
        for (int room = 0; room < 4; room++) {
            Kit.due("nights to room " + room, x.slips(0, room), room);
        }
        Kit.due("and back", x.slips(1, 0), 2);
    }

    static void inAHouseOfEightRooms() {
        IdeaMousers x = Kit.withHouse("room 60;".repeat(8) + "way 0 1;way 2 1;way 2 3;way 4 3;way 4 5;way 6 5;way 6 7;"
            + "scheme 0 1 0;" + "scheme 3 1 0;".repeat(6) + "scheme 7 1 0;" + "cat 7 0;".repeat(5));
        for (int room = 0; room < 8; room++) {
            Kit.due("the first to room " + room, x.slips(0, room), room);
            Kit.due("the last to room " + room, x.slips(7, room), 7 - room);
        }
        Kit.work(x, "shut 6;");
        Kit.due("shut off", x.slips(0, 7), -1);
    }

    static void byOpenWaysAlone() {
        IdeaMousers x = Kit.withHouse(LINE + "scheme 0 1 0;");
        Kit.work(x, "shut 1;");
        Kit.due("a shut way", x.slips(0, 2), -1);
        Kit.due("up to it", x.slips(0, 1), 1);
        Kit.due("no way at all", Kit.withHouse("room 0;room 0;scheme 0 1 0;").slips(0, 1), -1);
    }

    static void noneIfItDoesNotLive() {
        IdeaMousers x = Kit.withHouse(Kit.HOUSE);
        Kit.work(x, "night;");
        Kit.due("taken, not even where it was", x.slips(1, 0), -1);
        IdeaMousers y = Kit.withHouse(Kit.HOUSE);
        Kit.work(y, "join 0 1;");
        Kit.due("joined", y.slips(1, 0), -1);
    }

    static void itMustLiveBehindTheNight() {
        for (int size = 1; size <= 60; size++) {
            // A cat with a nose of 5 in a room of 50 sees what is above 45; it grows by 3 a night.
            IdeaMousers x = Kit.withHouse("room 0;room 0;room 50;way 0 1;way 1 2;scheme 0 " + size
                + " 3;scheme 1 " + size + " 3;cat 2 5;");
            Kit.due("one night by " + size, x.slips(1, 2), size + 3 <= 45 ? 1 : -1);
            Kit.due("two nights by " + size, x.slips(0, 2), size + 6 <= 45 ? 2 : -1);
        }
    }

    static void upTo40Nights() {
        // It would be seen in room 1, but for the night in which the other one is greater.
        IdeaMousers x = Kit.withHouse("room 0;room 10;way 0 1;scheme 0 20 0;scheme 1 10 0;cat 1 0;");
        Kit.due("never", x.slips(0, 1), -1);
        Kit.law(x, "scheme*(night/39)*50");
        Kit.due("in the 40th night", x.slips(0, 1), 40);
        Kit.law(x, "scheme*(night/40)*50");
        Kit.due("in the 41st night", x.slips(0, 1), -1);
    }

    static void ofAlikeOnesTheFirstIsTaken() {
        Kit.due("it is the first", Kit.withHouse("room 0;room 10;way 0 1;scheme 0 20 0;scheme 1 20 0;cat 1 0;").slips(0, 1), -1);
        Kit.due("it is the second", Kit.withHouse("room 0;room 10;way 0 1;scheme 1 20 0;scheme 0 20 0;cat 1 0;").slips(1, 1), 1);
        Kit.due("but for a second cat",
            Kit.withHouse("room 0;room 10;way 0 1;scheme 1 20 0;scheme 0 20 0;cat 1 0;cat 1 0;").slips(1, 1), -1);
    }

    static void aGreaterOneIsTakenInItsStead() {
        for (int more = 0; more <= 2; more++) {
            IdeaMousers y = Kit.withHouse("room 0;room 10;way 0 1;scheme 0 19 0;scheme 1 20 0;scheme 0 19 0;cat 1 0;");
            Kit.work(y, more == 0 ? "" : "feed 0 " + more + ";feed 2 " + more + ";");
            Kit.due("the first one, by " + more, y.slips(0, 1), more == 0 ? 1 : -1);
            Kit.due("the last one, by " + more, y.slips(2, 1), more <= 1 ? 1 : -1);
        }
    }

    static void greatestSizes() {
        IdeaMousers z = Kit.withHouse("room 60;room 0;way 0 1;scheme 0 60 0;scheme 1 60 9;cat 1 0;");
        Kit.work(z, "again 60 [feed 0 60;];hide 1 0;again 60 [feed 1 60;];hide 1 1;");
        Kit.due("two of 999: the first is taken", z.slips(0, 1), -1);
        Kit.due("999 in a room without cats", z.slips(1, 0), 1);
        IdeaMousers y = Kit.withHouse("room 60;room 0;room 0;way 0 1;way 1 2;scheme 0 60 9;");
        Kit.work(y, "again 60 [feed 0 60;];");
        Kit.due("999 grows no more", y.slips(0, 2), 2);
    }

    static void byTheRoomsItGoesItGrows() {
        // The short way leads by room 1, where it grows too great for the cat in room 3.
        IdeaMousers x = Kit.withHouse("room 0;room 9;room 0;room 10;room 0;way 0 1;way 1 3;way 0 2;way 2 4;way 4 3;scheme 0 8 0;cat 3 0;");
        Kit.due("by the short way", x.slips(0, 3), 2);
        Kit.law(x, "hide%10");
        Kit.due("by the long way", x.slips(0, 3), 3);
        Kit.work(x, "shut 4;");
        Kit.due("by none", x.slips(0, 3), -1);
    }

    static void whatWasTakenOnAPathIsNotThereLater() {
        // By night 1 the other one in room 1 would be greater; but both rooms are deadly in night 0.
        String house = "room 0;room 10;way 0 1;scheme 0 20 0;scheme 1 10 0;cat 1 0;";
        IdeaMousers x = Kit.withHouse(house);
        Kit.law(x, "scheme*night*50");
        Kit.due("it waits", x.slips(0, 1), 2);
        IdeaMousers y = Kit.withHouse(house + "cat 0 0;");
        Kit.law(y, "scheme*night*50");
        Kit.due("it can't wait", y.slips(0, 1), -1);
    }

    static void whatGrewOnAPathIsNotSmallLater() {
        // In night 0 it grows beyond what hides it in room 1, wherever it is.
        IdeaMousers x = Kit.withHouse("room 60;room 9;room 60;way 0 2;way 2 1;scheme 0 5 0;cat 1 0;");
        Kit.law(x, "5*(1-least[1,night])");
        Kit.due("too great", x.slips(0, 1), -1);
        Kit.law(x, "4*(1-least[1,night])");
        Kit.due("not too great", x.slips(0, 1), 2);
    }

    static void askedOfAnotherOneInBetween() {
        IdeaMousers x = Kit.withHouse(LINE + "scheme 0 60 9;scheme 3 1 0;");
        Kit.due("first", x.slips(0, 3), 3);
        Kit.due("another", x.slips(1, 2), 1);
        Kit.due("first again", x.slips(0, 1), 1);
        Kit.due("another again", x.slips(1, 0), 3);
    }

    static void itMayStay() {
        // The cat of room 1 sees it but for the night in which it takes the greater one that grew.
        IdeaMousers x = Kit.withHouse("room 60;room 0;way 0 1;scheme 0 9 0;scheme 1 1 0;scheme 1 1 0;scheme 1 1 0;cat 1 0;");
        Kit.law(x, "scheme/3*(night/2)*20");
        Kit.due("it waits for the third night", x.slips(0, 1), 3);
    }

    static void itMayComeBack() {
        // In night 0 it would be seen where it is, in night 1 the other one is.
        IdeaMousers x = Kit.withHouse("room 0;room 60;room 60;way 0 1;way 0 2;scheme 0 9 0;cat 0 0;");
        Kit.due("it hides by the way from where it is", x.slips(0, 1), 1);
        Kit.due("and by another", x.slips(0, 2), 1);
        IdeaMousers y = Kit.withHouse("room 0;room 60;way 0 1;scheme 1 9 0;scheme 0 1 0;cat 0 0;");
        Kit.due("where it is shielded by none", y.slips(0, 0), -1);
        Kit.work(y, "again 9 [feed 1 1;];");
        Kit.due("where a greater one is taken", y.slips(0, 0), 1);
    }

    static void theLawSeesTheMatTheCatsAndTheNight() {
        IdeaMousers y = Kit.withHouse("room 0;room 6;way 0 1;scheme 0 5 0;cat 1 0;");
        Kit.law(y, "cats*2+night");
        Kit.due("the cat there makes it grow", y.slips(0, 1), -1);
        Kit.law(y, "cats+night");
        Kit.due("not too much", y.slips(0, 1), 1);
        IdeaMousers x = Kit.withHouse("room 0;room 0;room 10;way 0 1;way 1 2;scheme 0 5 0;cat 0 0;cat 2 0;");
        Kit.law(x, "mat*60");
        Kit.due("with a bare mat", x.slips(0, 2), 2);
        IdeaMousers z = Kit.withHouse("room 0;room 0;room 10;room 0;way 0 1;way 1 2;scheme 0 5 0;scheme 3 1 0;cat 3 0;cat 2 0;");
        Kit.law(z, "mat*6");
        Kit.due("with one on the mat behind the first night", z.slips(0, 2), -1);
        Kit.law(z, "mat*5");
        Kit.due("with less", z.slips(0, 2), 2);
    }

    static void beyondNight900Too() {
        IdeaMousers x = Kit.withHouse("room 60;room 60;way 0 1;room 10;way 1 2;scheme 0 1 0;cat 2 0;");
        for (int i = 0; i < 5; i++) {
            Kit.work(x, "again 60 [again 60 [night;];];");
        }
        Kit.law(x, "night/901*10");
        Kit.due("too great by night 901", x.slips(0, 2), -1);
        Kit.law(x, "night/902*10");
        Kit.due("not by night 902", x.slips(0, 2), 2);
    }

    /** A scheme with so many ahead of it in the last room, where nobody sees them. */
    private static String schemes(int ahead, String scheme) {
        return "scheme 3 50 0;".repeat(ahead) + scheme + "scheme 3 50 0;".repeat(7 - ahead);
    }

    /** Likewise a cat. */
    private static String cats(int ahead, String cat) {
        return "cat 3 0;".repeat(ahead) + cat + "cat 3 0;".repeat(4 - ahead);
    }

    static void whicheverSchemeByWhicheverCat() {
        // The cat in room 2 sees what is above 15.
        String rooms = "room 60;room 60;room 20;room 60;way 0 1;way 1 2;";
        for (int scheme = 0; scheme < 8; scheme++) {
            for (int cat = 0; cat < 5; cat++) {
                String what = "scheme " + scheme + ", cat " + cat;
                IdeaMousers x = Kit.withHouse(rooms + schemes(scheme, "scheme 0 5 5;") + cats(cat, "cat 2 5;"));
                Kit.due(what + ": 15 by its own growth", x.slips(scheme, 2), 2);
                Kit.law(x, "scheme");
                Kit.due(what + ": by its own number", x.slips(scheme, 2), 5 + 2 * scheme <= 15 ? 2 : -1);
                Kit.law(x, "mat*60");
                Kit.due(what + ": those that live do not lie on the mat", x.slips(scheme, 2), 2);
                IdeaMousers y = Kit.withHouse(rooms + schemes(scheme, "scheme 0 5 6;") + cats(cat, "cat 2 5;"));
                Kit.due(what + ": 17 is too great", y.slips(scheme, 2), -1);
            }
        }
    }

    static void itLeavesNothingBehind() {
        // Were it still in room 0, too, the cat there would take it, and the mat make it grow.
        for (int scheme = 0; scheme < 8; scheme++) {
            IdeaMousers x = Kit.withHouse("room 0;room 60;room 10;room 60;way 0 1;way 1 2;"
                + schemes(scheme, "scheme 0 5 0;") + "cat 0 0;cat 2 0;");
            Kit.law(x, "mat*60");
            Kit.due("scheme " + scheme, x.slips(scheme, 2), 2);
        }
    }

    static void itMayStayInAnyRoom() {
        // In the fourth night the other one in the cat's room is great enough to be taken in its stead.
        for (int start = 1; start < 4; start++) {
            IdeaMousers x = Kit.withHouse("room 10;room 0;room 0;room 0;way 0 " + start + ";scheme " + start
                + " 20 0;scheme 0 10 0;cat 0 0;");
            Kit.law(x, "scheme*(night/3)*50");
            Kit.due("from room " + start, x.slips(0, 0), 4);
        }
    }

    static void eachCatInTheRoomIsToBeShunned() {
        for (int size = 14; size <= 17; size++) {
            String house = "room 60;room 20;way 0 1;scheme 0 " + size + " 0;";
            Kit.due("the better nose first, " + size, Kit.withHouse(house + "cat 1 5;cat 1 0;").slips(0, 1), size <= 15 ? 1 : -1);
            Kit.due("the better nose last, " + size, Kit.withHouse(house + "cat 1 0;cat 1 5;").slips(0, 1), size <= 15 ? 1 : -1);
        }
    }

    static void onlyWhatThatCatTakesShieldsIt() {
        for (int cat = 0; cat < 5; cat++) {
            String rooms = "room 0;room 10;room 0;room 0;way 0 1;";
            IdeaMousers x = Kit.withHouse(rooms + "scheme 0 12 0;scheme 1 20 0;" + cats(cat, "cat 1 0;"));
            Kit.due("by cat " + cat, x.slips(0, 1), 1);
            IdeaMousers y = Kit.withHouse(rooms + "scheme 0 12 0;scheme 3 20 0;" + cats(cat, "cat 1 0;"));
            Kit.due("not by another one than cat " + cat, y.slips(0, 1), -1);
        }
    }

    static void aCatThatTakesNoneElseTakesIt() {
        for (int size = 1; size <= 8; size++) {
            IdeaMousers x = Kit.withHouse("room 60;room 0;" + "room 60;".repeat(6) + "way 0 1;scheme 0 " + size + " 0;"
                + "scheme 7 50 0;".repeat(7) + "cat 1 0;");
            Kit.due("by " + size, x.slips(0, 1), -1);
        }
    }

    static void whatDoesNotLiveShieldsNobody() {
        IdeaMousers x = Kit.withHouse("room 0;room 0;way 0 1;scheme 0 1 0;scheme 1 9 0;cat 1 0;");
        Kit.due("a greater one is there", x.slips(0, 1), 1);
        Kit.work(x, "night;");
        Kit.due("it was taken", x.slips(0, 1), -1);
        IdeaMousers y = Kit.withHouse("room 0;room 0;way 0 1;scheme 0 1 0;scheme 1 5 0;scheme 1 9 0;cat 1 0;cat 1 0;");
        Kit.due("two greater ones for two cats", y.slips(0, 1), 1);
        Kit.work(y, "join 1 2;");
        Kit.due("one was joined", y.slips(0, 1), -1);
    }

    /** From room 0 by room 1 or 2, where it grows by 1 or by more, and room 3 to the cat in room 4. */
    private static IdeaMousers twoWays(int more, int last, String law) {
        IdeaMousers x = Kit.withHouse("room 30;room 1;room " + more + ";room 20;room " + last
            + ";way 0 1;way 0 2;way 1 3;way 2 3;way 3 4;scheme 0 6 0;cat 4 0;");
        Kit.due("law", Kit.law(x, law), 1);
        return x;
    }

    static void theSmallOfTwoSizesThatMeet() {
        // 7 and 11, or 7 and 46, meet in room 3; the cat sees what is above 10.
        IdeaMousers[] both = {twoWays(5, 10, "hide%10"), twoWays(59, 10, "most[hide%10,hide/59*40]")};
        for (IdeaMousers x : both) {
            Kit.due("by room 1", x.slips(0, 4), 3);
            Kit.work(x, "shut 0;");
            Kit.due("by room 2 alone", x.slips(0, 4), -1);
        }
    }

    static void theGreatOfTwoSizesThatMeet() {
        // In room 4, of 50, what is small grows beyond 50: 7 by 60, 8 by 40, what is above 10 by none.
        IdeaMousers[] both = {twoWays(5, 50, "most[hide%10,(10-size)*(hide/50)*20]"),
            twoWays(59, 50, "most[most[hide%10,hide/59*40],(10-size)*(hide%59/50)*20]")};
        for (IdeaMousers x : both) {
            Kit.due("by room 2", x.slips(0, 4), 3);
            Kit.work(x, "shut 1;");
            Kit.due("by two nights in room 1", x.slips(0, 4), 4);
        }
    }

    static void soManyAsTheHouseHas() {
        Kit.hasSoMany("slips(.., 0)", 3, (x, scheme) -> x.slips(scheme, 0));
        Kit.hasSoMany("slips(0, ..)", 5, (x, room) -> x.slips(0, room));
    }

    static void asksOnly() {
        Kit.asksOnly("slips(0, 3)", x -> x.slips(0, 3));
        Kit.asksOnly("slips(1, 0)", x -> x.slips(1, 0));
        Kit.asksOnly("slips(2, 3)", x -> x.slips(2, 3));
        Kit.asksOnly("slips(3, 1)", x -> x.slips(3, 1));
    }
}
