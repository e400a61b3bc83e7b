/** Promise 3, with what the Terms say of a HOUSE, of numbers, words, blanks and FAULTS. */
public final class Promise03HouseTest {
    private static final String EIGHT_ROOMS = "room 0;room 0;room 0;room 0;room 0;room 0;room 0;room 0;";
    private static final String FULL = EIGHT_ROOMS + "way 0 7;".repeat(12) + "scheme 7 1 0;".repeat(8)
        + "cat 7 0;".repeat(5);

    public static void main(String[] args) {
        Kit.run(Promise03HouseTest.class);
    }

    private static IdeaMousers stands(String text) {
        IdeaMousers x = Kit.withHouse(text);
        Kit.due("no fault by <" + text + ">", x.fault(), -1);
        return x;
    }

    private static void faulty(String text, int answer, int place) {
        IdeaMousers x = Kit.made(Kit::rich);
        Kit.due("house <" + text + ">", Kit.house(x, text), answer);
        Kit.due("its place", x.fault(), place);
        Kit.due("tape is empty then", x.count(1), 0);
        Kit.due("it is no refusal", x.status(0) + x.status(1), 0);
        Kit.sameAs("all stays by <" + text + ">", x, Kit::rich);
    }

    // ---- lengths ----

    static void lengthBelow0IsRefused() {
        Kit.illegal("house(-1)", x -> x.house(-1));
        Kit.illegal("house of the least number", x -> x.house(Integer.MIN_VALUE));
    }

    static void lengthAboveTheTapeIsRefused() {
        Kit.illegal("house(21) of 20", x -> x.house(21));
        Kit.illegal("house(1) of 0", Kit::rich, x -> x.house(1));
        Kit.illegal("house of the greatest number", x -> x.house(Integer.MAX_VALUE));
        Kit.illegal("house(601) of 600", x -> Kit.put(x, " ".repeat(600)), x -> x.house(601));
    }

    static void refusedLengthLeavesTheTape() {
        IdeaMousers x = new IdeaMousers();
        Kit.put(x, "room 7;             ");
        Kit.dueText("house(21)", Kit.outcome(x, y -> y.house(21)), "IllegalArgumentException");
        Kit.due("bytes", x.count(1), 20);
        Kit.due("it can still be read", x.house(20), 0);
        Kit.due("room", x.room(0, 0), 7);
    }

    static void lengthOfTheWholeTape() {
        IdeaMousers x = new IdeaMousers();
        Kit.put(x, " ".repeat(13) + "room 9;");
        Kit.due("house(20)", x.house(20), 0);
        Kit.due("room", x.room(0, 0), 9);
    }

    static void sixHundredBytes() {
        IdeaMousers x = stands(" ".repeat(593) + "room 8;");
        Kit.due("room", x.room(0, 0), 8);
        IdeaMousers y = stands("room " + "0".repeat(592) + "5" + ";");
        Kit.due("a long number", y.room(0, 0), 5);
    }

    static void lengthOf0IsAHouseWithoutClauses() {
        IdeaMousers x = Kit.made(Kit::richWithTape);
        Kit.due("house(0)", x.house(0), 0);
        Kit.due("no fault", x.fault(), -1);
        Kit.sameAs("a house without clauses", x, y -> { });
    }

    static void onlyTheFirstBytesAreRead() {
        IdeaMousers x = new IdeaMousers();
        Kit.put(x, "room 12;way");
        Kit.due("house(8)", x.house(8), 0);
        Kit.due("room", x.room(0, 0), 12);
        Kit.put(x, "room 123;");
        Kit.due("house(7) ends within a number", x.house(7), -9);
        Kit.due("at the length", x.fault(), 7);
        Kit.put(x, "room 7;");
        Kit.due("house(3) is no word", x.house(3), -9);
        Kit.due("at its first byte", x.fault(), 0);
        Kit.put(x, "room 1;roomroom");
        Kit.due("house(11) ends within a word", x.house(11), -9);
        Kit.due("the word is whole, so at the length", x.fault(), 11);
    }

    static void theTapeIsEmptyThen() {
        IdeaMousers x = new IdeaMousers();
        Kit.put(x, "room 1;room 2;");
        x.house(7);
        Kit.due("what was behind is gone, too", x.count(1), 0);
        Kit.illegal("so a byte more is refused", y -> { Kit.put(y, "room 1;"); y.house(7); }, y -> y.house(1));
    }

    // ---- clauses and their numbers ----

    static void blanksAloneAreAHouse() {
        stands("   ");
        stands(" ".repeat(600));
    }

    static void answersHowManySchemes() {
        stands("room 1;");
        stands("room 1;scheme 0 1 0;");
        stands(FULL);
    }

    static void hideIs0To60() {
        Kit.due("0", stands("room 0;").room(0, 0), 0);
        Kit.due("60", stands("room 60;").room(0, 0), 60);
        faulty("room 61;", -8, 5);
    }

    static void eightRoomsAtMost() {
        Kit.due("rooms", stands(EIGHT_ROOMS).told(0), 8);
        faulty(EIGHT_ROOMS + "room 0;", -7, 56);
    }

    static void roomsAreNumberedFrom0On() {
        IdeaMousers x = stands("room 5;room 6;room 7;");
        for (int room = 0; room < 3; room++) {
            Kit.due("room " + room, x.room(room, 0), 5 + room);
        }
    }

    static void waysAreBetweenRoomsToldAhead() {
        IdeaMousers x = stands("room 0;room 0;room 0;way 0 2;way 2 1;");
        Kit.due("A", x.way(0, 0), 0);
        Kit.due("B", x.way(0, 1), 2);
        Kit.due("A of the second", x.way(1, 0), 2);
        Kit.due("B of the second", x.way(1, 1), 1);
        faulty("room 0;room 0;way 2 0;", -8, 18);
        faulty("room 0;room 0;way 0 2;", -8, 20);
        faulty("room 0;way 0 1;room 0;", -8, 13);
        faulty("room 0;way 1 0;room 0;", -8, 11);
        faulty("way 0 1;", -8, 4);
    }

    static void bOfAWayIsNotA() {
        faulty("room 0;way 0 0;", -8, 13);
        faulty("room 0;room 0;way 1 01;", -8, 20);
        faulty("room 0;room 0;way 1 1", -8, 20);
        stands("room 0;room 0;way 1 0;");
    }

    static void twoWaysMayBeBetweenTwoRooms() {
        IdeaMousers x = stands("room 0;room 0;way 0 1;way 0 1;way 1 0;");
        Kit.due("ways", x.told(1), 3);
        Kit.due("beside", x.room(0, 3), 2);
    }

    static void twelveWaysAtMost() {
        String two = "room 0;room 0;";
        Kit.due("ways", stands(two + "way 0 1;".repeat(12)).told(1), 12);
        faulty(two + "way 0 1;".repeat(13), -7, 110);
    }

    static void schemesAreInRoomsToldAhead() {
        Kit.due("room", stands("room 0;room 0;scheme 1 1 0;").scheme(0, 0), 1);
        faulty("room 0;room 0;scheme 2 1 0;", -8, 21);
        faulty("scheme 0 1 0;room 0;", -8, 7);
    }

    static void sizeIs1To60() {
        Kit.due("1", stands("room 0;scheme 0 1 0;").scheme(0, 1), 1);
        Kit.due("60", stands("room 0;scheme 0 60 0;").scheme(0, 1), 60);
        faulty("room 0;scheme 0 0 0;", -8, 16);
        faulty("room 0;scheme 0 61 0;", -8, 16);
    }

    static void growIs0To9() {
        Kit.due("0", stands("room 0;scheme 0 1 0;").scheme(0, 2), 0);
        Kit.due("9", stands("room 0;scheme 0 1 9;").scheme(0, 2), 9);
        faulty("room 0;scheme 0 1 10;", -8, 18);
    }

    static void eightSchemesAtMost() {
        Kit.due("schemes", stands("room 0;" + "scheme 0 1 1;".repeat(8)).told(2), 8);
        faulty("room 0;" + "scheme 0 1 1;".repeat(9), -7, 111);
    }

    static void catsAreInRoomsToldAhead() {
        Kit.due("room", stands("room 0;room 0;cat 1 0;").cat(0, 0), 1);
        faulty("room 0;room 0;cat 2 0;", -8, 18);
        faulty("cat 0 0;room 0;", -8, 4);
    }

    static void noseIs0To20() {
        Kit.due("0", stands("room 0;cat 0 0;").cat(0, 1), 0);
        Kit.due("20", stands("room 0;cat 0 20;").cat(0, 1), 20);
        faulty("room 0;cat 0 21;", -8, 13);
    }

    static void fiveCatsAtMost() {
        Kit.due("cats", stands("room 0;" + "cat 0 1;".repeat(5)).told(3), 5);
        faulty("room 0;" + "cat 0 1;".repeat(6), -7, 47);
    }

    /** 60 clauses can't be told, since 33 is the sum of what may be told of each kind. */
    static void thirtyThreeClauses() {
        IdeaMousers x = stands(FULL);
        Kit.due("rooms", x.told(0), 8);
        Kit.due("ways", x.told(1), 12);
        Kit.due("schemes", x.told(2), 8);
        Kit.due("cats", x.told(3), 5);
        Kit.due("all live", x.told(5), 255);
        faulty(FULL + "room 0;", -7, FULL.length());
        faulty(FULL + "way 0 1;", -7, FULL.length());
        faulty(FULL + "scheme 0 1 1;", -7, FULL.length());
        faulty(FULL + " cat 0 1;", -7, FULL.length() + 1);
    }

    static void clausesMayBeToldInAnyOrder() {
        IdeaMousers x = stands("room 1;cat 0 3;scheme 0 4 5;room 2;scheme 1 6 7;way 0 1;cat 1 8;");
        Kit.due("second scheme", x.scheme(1, 1), 6);
        Kit.due("second cat", x.cat(1, 1), 8);
    }

    // ---- numbers, words, blanks ----

    static void numbersHaveAsManyDigitsAsStandThere() {
        Kit.due("zeros ahead", stands("room 00000000000000000000060;").room(0, 0), 60);
        faulty("room 00000000000000000000061;", -8, 5);
        faulty("room 4294967296;", -8, 5);
        faulty("room 4294967301;", -8, 5);
        faulty("room 2147483648;", -8, 5);
        faulty("room 18446744073709551617;", -8, 5);
        faulty("room " + "9".repeat(500) + ";", -8, 5);
    }

    static void numbersHaveNoSign() {
        faulty("room -1;", -9, 5);
        faulty("room +1;", -9, 5);
        faulty("room 1.5;", -9, 6);
        faulty("room /;", -9, 5);
        faulty("room :;", -9, 5);
    }

    static void wordsHaveAsManySmallLettersAsStandThere() {
        faulty("rooms 1;", -9, 0);
        faulty("rooma1;", -9, 0);
        faulty("roomz1;", -9, 0);
        faulty("roomroom 1;", -9, 0);
        faulty("roo 1;", -9, 0);
        faulty("ro om 1;", -9, 0);
        faulty("room 1;ways 0 0;", -9, 7);
        faulty("room 1;wa 0 0;", -9, 7);
        faulty("room 1;schemes 0 1 1;", -9, 7);
        faulty("room 1;schem 0 1 1;", -9, 7);
        faulty("room 1;cats 0 1;", -9, 7);
        faulty("room 1;ca 0 1;", -9, 7);
        faulty("Room 1;", -9, 0);
        faulty("ROOM 1;", -9, 0);
        faulty("hide 1;", -9, 0);
        faulty("room`1;", -9, 4);
        faulty("room{1;", -9, 4);
    }

    static void wordsAndNumbersNeedNoBlankBetween() {
        IdeaMousers x = stands("room5;room6;way0 1;scheme1 2 3;cat1 4;");
        Kit.due("room", x.room(1, 0), 6);
        Kit.due("scheme", x.scheme(0, 0), 1);
        faulty("room 1;room 1;way 01;", -9, 20);
    }

    static void blanksMayStandAheadOfAllAndAtTheEnd() {
        IdeaMousers x = stands("   room   5   ;   room 0060 ;  way  0   01  ;  scheme  1   7  9 ;  cat 1   20  ;   ");
        Kit.due("hide", x.room(1, 0), 60);
        Kit.due("size", x.scheme(0, 1), 7);
        Kit.due("nose", x.cat(0, 1), 20);
        faulty("room 1 2;", -9, 7);
    }

    static void nothingElseIsABlank() {
        faulty("\troom 1;", -9, 0);
        faulty("room\n1;", -9, 4);
        faulty("room 1\r;", -9, 6);
        faulty("room 1;\u0000", -9, 7);
        faulty("room 1;\u00a0", -9, 7);
        faulty("room\u001f1;", -9, 4);
        faulty("room!1;", -9, 4);
    }

    // ---- faults ----

    static void whatCannotStandThere() {
        faulty(";", -9, 0);
        faulty("1;", -9, 0);
        faulty("room 1;;", -9, 7);
        faulty("room ;", -9, 5);
        faulty("room room 1;", -9, 5);
        faulty("room 1 room 2;", -9, 7);
        faulty("room 1,room 2;", -9, 6);
        faulty("room 1x;", -9, 6);
        faulty("room 1;  x", -9, 9);
        faulty("room 1;way 0;", -9, 12);
        faulty("room 1;scheme 0 1;", -9, 17);
        faulty("room 1;scheme ;", -9, 14);
        faulty("room 1;cat 0;", -9, 12);
        faulty("room 1;cat 0 1 1;", -9, 15);
    }

    static void atTheLengthIfTheTextEndsTooEarly() {
        faulty("room", -9, 4);
        faulty("room ", -9, 5);
        faulty("room 1", -9, 6);
        faulty("room 1   ", -9, 9);
        faulty("room 1;way", -9, 10);
        faulty("room 1;room 1;way 0", -9, 19);
        faulty("room 1;room 1;way 0 1", -9, 21);
        faulty("room 1;scheme", -9, 13);
        faulty("room 1;scheme 0", -9, 15);
        faulty("room 1;scheme 0 1", -9, 17);
        faulty("room 1;scheme 0 1 1", -9, 19);
        faulty("room 1;cat", -9, 10);
        faulty("room 1;cat 0", -9, 12);
        faulty("room 1;cat 0 1 ", -9, 15);
        faulty("room 1" + " ".repeat(594), -9, 600);
    }

    static void theFirstFromTheLeft() {
        faulty("room 61 room", -8, 5);
        faulty("room 61;room 62;", -8, 5);
        faulty("x;room 61;", -9, 0);
        faulty("room 1;way 1 1;", -8, 11);
        faulty("room 1;scheme 1 0 10;", -8, 14);
        faulty("room 1;scheme 0 0 10;", -8, 16);
        faulty("room 1 room 61;", -9, 7);
    }

    static void tooManyAtTheWordWhateverComesBehind() {
        faulty(EIGHT_ROOMS + "room 61;", -7, 56);
        faulty(EIGHT_ROOMS + "room", -7, 56);
        faulty(EIGHT_ROOMS + "  room;", -7, 58);
        faulty(EIGHT_ROOMS + "way 0 1;".repeat(12) + "way x", -7, 152);
        faulty("room 0;" + "scheme 0 1 1;".repeat(8) + "scheme", -7, 111);
        faulty("room 0;" + "cat 0 1;".repeat(5) + "cat 9 99;", -7, 47);
    }

    static void ofOnePlaceTheLeast() {
        faulty(EIGHT_ROOMS + "rooms 0;", -9, 56);
        faulty("room 0;" + "cat 0 1;".repeat(5) + "cats 0 1;", -9, 47);
        faulty("room 1 61;", -9, 7);
    }

    // ---- what a house that stands changes ----

    static void allBeginsAnew() {
        IdeaMousers x = Kit.made(Kit::rich);
        Kit.due("house", Kit.house(x, Kit.HOUSE), 4);
        Kit.due("no fault", x.fault(), -1);
        Kit.sameAs("as in a new object", x, y -> Kit.house(y, Kit.HOUSE));
    }

    static void itIsNight0AllLiveAllIsOpenTheMatIsBare() {
        IdeaMousers x = Kit.made(Kit::rich);
        Kit.house(x, Kit.HOUSE);
        int[] due = {4, 4, 4, 3, 0, 15, 0, 0, 0, 0, 0, 41};
        for (int what = 0; what < due.length; what++) {
            Kit.due("told(" + what + ")", x.told(what), due[what]);
        }
        Kit.due("no law", x.more(3), 3);
        Kit.due("nobody took", x.proudest(0), -1);
    }

    static void imagesAndWorksAreGone() {
        IdeaMousers x = Kit.made(Kit::rich);
        Kit.house(x, Kit.HOUSE);
        Kit.due("images", x.count(0), 0);
        Kit.due("works", x.count(2), 0);
        Kit.due("undo", x.undo(), -1);
        Kit.due("restore", x.restore(), -1);
        Kit.due("there is room for three images", x.image() + x.image() + x.image(), 6);
    }

    static void sixteenWorksAreForgotten() {
        IdeaMousers x = Kit.withHouse("room 0;");
        for (int i = 0; i < 16; i++) {
            x.work(0);
        }
        Kit.due("full", x.work(0), -20);
        Kit.house(x, "room 0;");
        Kit.due("not full", x.work(0), 0);
    }

    static void noCatTookAny() {
        String house = "room 0;room 0;" + "scheme 1 1 0;".repeat(8) + "cat 1 0;".repeat(5);
        IdeaMousers x = Kit.withHouse(house);
        Kit.work(x, "night;");
        for (int cat = 0; cat < 5; cat++) {
            Kit.due("took, cat " + cat, x.cat(cat, 2), 1);
        }
        Kit.house(x, house);
        for (int cat = 0; cat < 5; cat++) {
            Kit.due("took none, cat " + cat, x.cat(cat, 2), 0);
        }
        Kit.due("proudest", x.proudest(0), -1);
    }

    static void aFaultLeavesWhatIsAsked() {
        for (String text : Kit.FAULTY_HOUSES) {
            IdeaMousers x = Kit.withHouse(Kit.UNEVEN);
            Kit.due("house <" + text + ">", Kit.house(x, text), -9);
            Kit.dueText("all that is asked", asked(x), asked(Kit.withHouse(Kit.UNEVEN)));
        }
        IdeaMousers y = Kit.withHouse(Kit.UNEVEN);
        Kit.due("safe", y.safe(), 1);
        Kit.due("hungry", y.hungry(), 0);
        Kit.due("crowd", y.crowd(0), 4);
        Kit.due("sums", y.sums(4, 37), 1);
        Kit.due("crumbs", y.crumbs(2, 5, 9), 4);
    }

    private static String asked(IdeaMousers x) {
        StringBuilder out = new StringBuilder();
        Kit.Ask[] asks = {
            y -> y.safe(), y -> y.hungry(), y -> y.doomed(), y -> y.crowd(0), y -> y.crowd(1), y -> y.havens(9),
            y -> y.greatest(0), y -> y.sums(4, 37), y -> y.sums(4, 30), y -> y.weight(4), y -> y.far(1, 4),
            y -> y.crumbs(2, 5, 9), y -> y.crumbs(0, 7, 20), y -> y.crumbs(0, 8, 20), y -> y.escapes(2),
            y -> y.hunt(0), y -> y.hunt(1), y -> y.prey(1), y -> y.fits(0), y -> y.look(0), y -> y.look(1),
            y -> y.slips(0, 2), y -> y.lasts(2), y -> y.grown(2, 0), y -> y.ahead(3, 1),
            y -> y.span(5, 20, 6, 8, 0, 2), y -> y.span(5, 20, 6, 8, 2, 0), y -> y.span(5, 20, 6, 8, 2, 3),
        };
        for (Kit.Ask ask : asks) {
            out.append(' ').append(Kit.outcome(x, ask));
        }
        for (int seed = 0; seed < 20; seed++) {
            int drawn = seed;
            out.append(' ').append(Kit.outcome(x, y -> y.season(drawn, 4, 8, 1)));
        }
        return out.toString();
    }

    static void nothingOfALongerHouseIsLeft() {
        IdeaMousers x = stands(FULL);
        Kit.work(x, "hide 0 0;hide 7 0;join 2 1;shut 11;night;");
        Kit.book(x, "0 1;4 1;");
        Kit.askAll(x);
        Kit.house(x, "room 3;scheme 0 2 1;cat 0 0;");
        Kit.sameAs("as told alone", x, y -> Kit.house(y, "room 3;scheme 0 2 1;cat 0 0;"));
    }

    static void thereIsNoBook() {
        IdeaMousers x = Kit.made(Kit::rich);
        Kit.house(x, Kit.HOUSE);
        Kit.due("lines", x.told(9), 0);
        Kit.due("all pairs fit", x.fits(0), 16);
        Kit.due("the first", x.fits(1), 0);
    }

    static void refusalsAreStillCounted() {
        IdeaMousers x = new IdeaMousers();
        Kit.outcome(x, y -> y.room(0, 0));
        Kit.outcome(x, y -> y.told(12));
        Kit.house(x, Kit.HOUSE);
        Kit.due("missing", x.status(0), 1);
        Kit.due("illegal", x.status(1), 1);
    }
}
