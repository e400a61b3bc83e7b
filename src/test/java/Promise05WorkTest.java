/** Promise 5, with what the Terms and ==== 2 say of WORK, its STEPS, and what is REFUSED. */
public final class Promise05WorkTest {
    public static void main(String[] args) {
        Kit.run(Promise05WorkTest.class);
    }

    private static void faulty(String text, int answer, int place) {
        IdeaMousers x = Kit.made(Kit::rich);
        Kit.due("work <" + text + ">", Kit.work(x, text), answer);
        Kit.due("its place", x.fault(), place);
        Kit.due("tape is empty then", x.count(1), 0);
        Kit.due("it is no refusal", x.status(0) + x.status(1), 0);
        Kit.sameAs("all stays by <" + text + ">", x, Kit::rich);
    }

    private static void does(IdeaMousers x, String text, int done, int refused) {
        Kit.due("work <" + text + ">", Kit.work(x, text), done);
        Kit.due("no fault by <" + text + ">", x.fault(), -1);
        Kit.due("refused by <" + text + ">", x.told(10), refused);
    }

    /** A step that is refused changes nothing: so it is as if an empty work had been done. */
    private static void refuses(String house, String ahead, String step) {
        IdeaMousers x = Kit.withHouse(house);
        Kit.work(x, ahead);
        does(x, step, 0, 1);
        Kit.due("works", x.count(2), 2);
        IdeaMousers y = Kit.withHouse(house);
        Kit.work(y, ahead);
        y.work(0);
        // told(10) is the one thing that differs, so both are looked at behind one more empty work.
        x.work(0);
        y.work(0);
        Kit.dueText("nothing changes by <" + step + ">", Kit.all(x), Kit.all(y));
    }

    private static void longTape(IdeaMousers x) {
        Kit.rich(x);
        Kit.put(x, " ".repeat(180));
    }

    private static void sixteen(IdeaMousers x) {
        Kit.house(x, "room 60;scheme 0 1 0;");
        for (int i = 0; i < 15; i++) {
            Kit.work(x, "feed 0 1;");
        }
        Kit.work(x, "join 0 0;");
    }

    // ---- lengths ----

    static void lengthBelow0IsRefused() {
        Kit.illegal("work(-1)", x -> x.work(-1));
        Kit.illegal("work of the least number", x -> x.work(Integer.MIN_VALUE));
    }

    static void lengthAboveTheTapeIsRefused() {
        Kit.illegal("work(21) of 20", x -> x.work(21));
        Kit.illegal("work(1) of 0", Kit::rich, x -> x.work(1));
        Kit.illegal("work of the greatest number", x -> x.work(Integer.MAX_VALUE));
    }

    static void lengthAbove150IsRefused() {
        Kit.illegal("work(151) of 180", Promise05WorkTest::longTape, x -> x.work(151));
        Kit.illegal("work(180) of 180", Promise05WorkTest::longTape, x -> x.work(180));
    }

    static void lengthOf150() {
        IdeaMousers x = new IdeaMousers();
        Kit.put(x, "night;".repeat(26));
        Kit.due("25 nights", x.work(150), 25);
        Kit.due("night 25", x.told(4), 25);
        Kit.due("what was behind is gone, too", x.count(1), 0);
    }

    static void lengthOf0IsAWorkOfNoSteps() {
        IdeaMousers x = Kit.made(Kit::richWithTape);
        Kit.due("work(0)", x.work(0), 0);
        Kit.due("tape", x.count(1), 0);
        Kit.due("one work more", x.count(2), 4);
        Kit.due("none refused", x.told(10), 0);
        Kit.due("no fault", x.fault(), -1);
        Kit.due("blanks alone", Kit.work(x, "   "), 0);
        Kit.due("one work more", x.count(2), 5);
    }

    static void onlyTheFirstBytesAreRead() {
        IdeaMousers x = new IdeaMousers();
        Kit.put(x, "night;night;");
        Kit.due("work(6)", x.work(6), 1);
        Kit.put(x, "night;");
        Kit.due("work(5)", x.work(5), -9);
        Kit.due("at the length", x.fault(), 5);
        Kit.put(x, "night;");
        Kit.due("work(4) is no word", x.work(4), -9);
        Kit.due("at its first byte", x.fault(), 0);
    }

    // ---- numbers ----

    static void numbersOfHide() {
        does(Kit.withHouse(Kit.HOUSE), "hide 3 2;hide 0 2;", 2, 0);
        faulty("hide 4 0;", -8, 5);
        faulty("hide 0 4;", -8, 7);
    }

    static void numbersOfCall() {
        does(Kit.withHouse(Kit.HOUSE), "call 2 0;call 1 3;", 2, 0);
        faulty("call 3 0;", -8, 5);
        faulty("call 0 4;", -8, 7);
    }

    static void feedIs1To60() {
        IdeaMousers x = Kit.withHouse(Kit.HOUSE);
        does(x, "feed 0 1;feed 3 60;", 2, 0);
        Kit.due("1 more", x.scheme(0, 1), 6);
        Kit.due("60 more", x.scheme(3, 1), 72);
        faulty("feed 4 1;", -8, 5);
        faulty("feed 0 0;", -8, 7);
        faulty("feed 0 61;", -8, 7);
    }

    static void numbersOfJoin() {
        does(Kit.withHouse(Kit.HOUSE), "hide 2 2;hide 3 2;join 3 2;join 0 1;", 4, 0);
        faulty("join 4 0;", -8, 5);
        faulty("join 0 4;", -8, 7);
    }

    static void numbersOfShut() {
        does(Kit.withHouse(Kit.HOUSE), "shut 0;shut 3;", 2, 0);
        faulty("shut 4;", -8, 5);
        faulty("shut 4294967296;", -8, 5);
    }

    static void againIs0To60Times() {
        IdeaMousers x = new IdeaMousers();
        does(x, "again 0 [night;];", 0, 0);
        Kit.due("no night", x.told(4), 0);
        does(x, "again 1 [night;];", 1, 0);
        does(x, "again 60 [night;];", 60, 0);
        Kit.due("61 nights", x.told(4), 61);
        faulty("again 61 [];", -8, 6);
        faulty("again 61 x", -8, 6);
    }

    static void numbersOfAnotherHouse() {
        IdeaMousers x = Kit.withHouse("room 0;room 0;way 0 1;scheme 0 1 0;cat 0 0;");
        Kit.due("the second scheme", Kit.work(x, "hide 1 0;"), -8);
        Kit.due("the third room", Kit.work(x, "hide 0 2;"), -8);
        Kit.due("the second cat", Kit.work(x, "call 1 0;"), -8);
        Kit.due("the second way", Kit.work(x, "shut 1;"), -8);
        does(x, "hide 0 1;call 0 1;shut 0;", 3, 0);
    }

    // ---- faults ----

    static void aFaultDoesNoneOfTheSteps() {
        faulty("shut 0;night;feed 0 9;nigh;", -9, 22);
        faulty("again 2 [night;];night", -9, 22);
        faulty("shut 0;shut 4;", -8, 12);
    }

    static void whatCannotStandThere() {
        faulty("nights;", -9, 0);
        faulty("nigh;", -9, 0);
        faulty("Night;", -9, 0);
        faulty("night 1;", -9, 6);
        faulty("night 99;", -9, 6);
        faulty("night;;", -9, 6);
        faulty("night,night;", -9, 5);
        faulty("night;]", -9, 6);
        faulty("hide 0;", -9, 6);
        faulty("hide ;", -9, 5);
        faulty("hide 0 1 2;", -9, 9);
        faulty("hide 01;", -9, 7);
        faulty("call 0;", -9, 6);
        faulty("feed 0;", -9, 6);
        faulty("join 0;", -9, 6);
        faulty("shut;", -9, 4);
        faulty("shut -1;", -9, 5);
        faulty("room 1;", -9, 0);
        faulty("again [];", -9, 6);
        faulty("again 2 night;", -9, 8);
        faulty("again 2 (night;);", -9, 8);
        faulty("again 2 [night];", -9, 14);
        faulty("again 2 [;];", -9, 9);
        faulty("again 2 []night;", -9, 10);
        faulty("again 2 [night;]]", -9, 16);
        faulty("\tnight;", -9, 0);
    }

    static void atTheLengthIfTheTextEndsTooEarly() {
        faulty("night;night", -9, 11);
        faulty("night   ", -9, 8);
        faulty("hide", -9, 4);
        faulty("hide 0", -9, 6);
        faulty("hide 0 1", -9, 8);
        faulty("again", -9, 5);
        faulty("again 2", -9, 7);
        faulty("again 2 [", -9, 9);
        faulty("again 2 [night", -9, 14);
        faulty("again 2 [night; ", -9, 16);
        faulty("again 2 [night;]", -9, 16);
    }

    static void theFirstFromTheLeft() {
        faulty("hide 4 9;x", -8, 5);
        faulty("hide 0 9 x", -8, 7);
        faulty("x;hide 4 9;", -9, 0);
        faulty("night 4;hide 9 9;", -9, 6);
    }

    static void blanksMayStandAheadOfAllAndAtTheEnd() {
        IdeaMousers x = Kit.withHouse(Kit.HOUSE);
        does(x, "  hide  0   1 ; again  2  [  night ;  ] ;  ", 3, 0);
        does(x, "again2[night;];shut00;", 3, 0);
    }

    static void sixAgainsOpenAtOneTime() {
        IdeaMousers x = new IdeaMousers();
        does(x, "again 1[again 2[again 1[again 1[again 1[again 1[night;];];];];];];", 2, 0);
        does(x, "again 1[];".repeat(7) + "night;", 1, 0);
        does(x, "again 1[again 1[again 1[again 1[again 1[again 1[];again 1[];];];];];];night;", 1, 0);
    }

    static void theSeventhAgainIsAFault() {
        String six = "night;again 1[again 1[again 1[again 1[again 1[again 1[";
        faulty(six + "again 1[];];];];];];];", -7, 54);
        faulty(six + "night;again 1[];];];];];];];", -7, 60);
        faulty(six + "];again 1[again 1[", -7, 64);
    }

    static void theSeventhAgainWhateverComesBehind() {
        String six = "again 0[again 0[again 0[again 0[again 0[again 0[";
        faulty(six + "again", -7, 48);
        faulty(six + " again 99", -7, 49);
        faulty(six + "agains", -9, 48);
        faulty(six + "hide 9", -8, 53);
    }

    // ---- what it answers ----

    static void answersStepsDoneAgainsNotCountedNorRefusedOnes() {
        IdeaMousers x = Kit.withHouse(Kit.HOUSE);
        does(x, "again 3 [join 0 0;night;again 2 [shut 0;join 1 1;];];", 9, 9);
    }

    static void fromTheLeftInOrder() {
        IdeaMousers x = Kit.withHouse("room 0;room 0;room 0;way 0 1;way 1 2;scheme 0 1 0;");
        does(x, "hide 0 1;hide 0 2;shut 1;hide 0 1;", 3, 1);
        Kit.due("room", x.scheme(0, 0), 2);
    }

    static void theBodyOfAnAgainAsOftenAsItSays() {
        IdeaMousers x = Kit.withHouse("room 60;scheme 0 1 0;");
        does(x, "again 2 [feed 0 1;again 3 [night;];];feed 0 5;", 9, 0);
        Kit.due("nights", x.told(4), 6);
        Kit.due("size", x.scheme(0, 1), 8);
    }

    // ---- sixteen works ----

    static void sixteenWorksAreTaken() {
        IdeaMousers x = Kit.withHouse(Kit.HOUSE);
        for (int i = 1; i <= 16; i++) {
            Kit.due("work " + i, Kit.work(x, i % 2 == 0 ? "" : "shut 0;"), i % 2);
            Kit.due("works", x.count(2), i);
        }
    }

    static void theSeventeenthIsMinus20AheadOfFaults() {
        for (String text : new String[] {"", "feed 0 1;", "x", "hide 9 9;", "again 1[again 1[again 1[again 1[again 1[again 1[again 1["}) {
            IdeaMousers x = Kit.made(Promise05WorkTest::sixteen);
            Kit.law(x, "1+x");
            Kit.due("work <" + text + ">", Kit.work(x, text), -20);
            Kit.due("no fault", x.fault(), -1);
            Kit.due("tape is empty then", x.count(1), 0);
            Kit.due("it is no refusal", x.status(0) + x.status(1), 0);
            Kit.due("steps refused by the latest that was done", x.told(10), 1);
            Kit.sameAs("nothing changes by <" + text + ">", x, Promise05WorkTest::sixteen);
        }
    }

    static void theSeventeenthEmptiesATapeOfMore() {
        IdeaMousers x = Kit.made(Promise05WorkTest::sixteen);
        Kit.put(x, "night;".repeat(40));
        Kit.due("work(6)", x.work(6), -20);
        Kit.due("tape", x.count(1), 0);
    }

    static void aLengthIsRefusedAheadOfMinus20() {
        Kit.illegal("work(1)", Promise05WorkTest::sixteen, x -> x.work(1));
        Kit.illegal("work(-1)", Promise05WorkTest::sixteen, x -> x.work(-1));
    }

    static void worksThatWereUndoneAreNotCounted() {
        IdeaMousers x = Kit.made(Promise05WorkTest::sixteen);
        Kit.due("undo", x.undo(), 15);
        Kit.due("the 16th again", Kit.work(x, "night;"), 1);
        Kit.due("full again", Kit.work(x, "night;"), -20);
    }

    static void worksOfFaultsAreNotCounted() {
        IdeaMousers x = Kit.withHouse(Kit.HOUSE);
        for (int i = 0; i < 20; i++) {
            Kit.work(x, "x");
        }
        Kit.due("works", x.count(2), 0);
        Kit.due("a work", Kit.work(x, "night;"), 1);
    }

    // ---- 200 steps ----

    static void theTwoHundredthIsDone() {
        IdeaMousers x = new IdeaMousers();
        // 3 times 61, then 16, make 199.
        does(x, "again 60[night;];".repeat(3) + "again 15[night;];night;", 196, 0);
        Kit.due("nights", x.told(4), 196);
    }

    static void whatComesBehindTheTwoHundredthIsLeftOut() {
        IdeaMousers x = new IdeaMousers();
        does(x, "again 60[night;];".repeat(3) + "again 15[night;];night;night;", 196, 0);
        IdeaMousers y = new IdeaMousers();
        does(y, "again 60[night;];".repeat(3) + "again 16[night;];night;", 196, 0);
        IdeaMousers z = Kit.withHouse("room 60;scheme 0 1 0;");
        does(z, "again 60[night;];".repeat(3) + "again 60[feed 0 1;];night;", 180 + 16, 0);
        Kit.due("size", z.scheme(0, 1), 17);
    }

    static void anAgainIsCountedEachTimeItIsComeTo() {
        IdeaMousers x = new IdeaMousers();
        does(x, "again 60 [again 60 [night;];];night;", 195, 0);
        IdeaMousers y = new IdeaMousers();
        does(y, "again 60[again 60[again 60[];];];night;", 0, 0);
        IdeaMousers z = new IdeaMousers();
        // 1 and 60 times 1; 1 and 60 times 1; 1 and 60 times 1; 1 and 15 times 1: 199.
        does(z, "again 60[again 0[night;];];".repeat(3) + "again 15[again 9[];];night;night;", 1, 0);
    }

    static void refusedStepsAreCounted() {
        IdeaMousers x = Kit.withHouse("room 60;scheme 0 1 0;");
        does(x, "again 60[join 0 0;];".repeat(3) + "again 15[join 0 0;];night;night;", 1, 195);
        does(x, "again 60[join 0 0;];".repeat(4) + "night;", 0, 196);
    }

    static void eachWorkHasStepsOfItsOwn() {
        IdeaMousers x = new IdeaMousers();
        for (int i = 1; i <= 4; i++) {
            does(x, "again 60 [again 60 [night;];];", 195, 0);
            Kit.due("nights", x.told(4), 195 * i);
        }
    }

    // ---- hide ----

    static void hideByAnOpenWayEitherWayRound() {
        IdeaMousers x = Kit.withHouse(Kit.HOUSE);
        does(x, "hide 0 1;", 1, 0);
        Kit.due("room", x.scheme(0, 0), 1);
        does(x, "hide 0 0;", 1, 0);
        Kit.due("room", x.scheme(0, 0), 0);
        does(x, "hide 3 2;", 1, 0);
        Kit.due("room", x.scheme(3, 0), 2);
    }

    static void hideIsRefusedWithoutAWay() {
        refuses(Kit.HOUSE, "", "hide 0 3;");
        refuses(Kit.HOUSE, "", "hide 0 0;");
        refuses(Kit.HOUSE, "hide 0 1;", "hide 0 3;");
    }

    static void hideIsRefusedByAShutWay() {
        refuses(Kit.HOUSE, "shut 0;", "hide 0 1;");
        refuses(Kit.HOUSE, "shut 3;", "hide 3 2;");
        does(Kit.withHouse(Kit.HOUSE), "shut 0;shut 0;hide 0 1;", 3, 0);
        IdeaMousers x = Kit.withHouse("room 0;room 0;way 0 1;way 1 0;scheme 0 1 0;");
        does(x, "shut 0;hide 0 1;", 2, 0);
        does(x, "shut 1;hide 0 0;", 1, 1);
    }

    static void hideIsRefusedIfItDoesNotLive() {
        refuses(Kit.HOUSE, "night;", "hide 1 2;");
        refuses(Kit.HOUSE, "join 0 1;", "hide 1 2;");
    }

    // ---- call ----

    static void callByAnOpenWayEitherWayRound() {
        IdeaMousers x = Kit.withHouse(Kit.HOUSE);
        does(x, "call 0 2;call 0 3;call 2 0;", 3, 0);
        Kit.due("cat 0", x.cat(0, 0), 3);
        Kit.due("cat 2", x.cat(2, 0), 0);
    }

    static void callIsRefusedWithoutAWay() {
        refuses(Kit.HOUSE, "", "call 0 3;");
        refuses(Kit.HOUSE, "", "call 0 0;");
    }

    static void callIsRefusedByAShutWay() {
        refuses(Kit.HOUSE, "shut 0;", "call 0 1;");
        refuses(Kit.HOUSE, "call 1 3;shut 3;", "call 1 2;");
    }

    // ---- feed ----

    static void feedIs999AtMost() {
        IdeaMousers x = Kit.withHouse("room 60;scheme 0 60 0;");
        does(x, "again 15 [feed 0 60;];feed 0 38;", 16, 0);
        Kit.due("998", x.scheme(0, 1), 998);
        does(x, "feed 0 1;", 1, 0);
        Kit.due("999", x.scheme(0, 1), 999);
        x.undo();
        does(x, "feed 0 60;", 1, 0);
        Kit.due("999 again", x.scheme(0, 1), 999);
    }

    static void feedIsRefusedAt999() {
        refuses("room 60;scheme 0 60 0;", "again 15 [feed 0 60;];feed 0 39;", "feed 0 1;");
    }

    static void feedIsRefusedIfItDoesNotLive() {
        refuses(Kit.HOUSE, "night;", "feed 1 1;");
        refuses(Kit.HOUSE, "join 0 1;", "feed 1 1;");
    }

    // ---- join ----

    static void joinAddsTheSecondToTheFirst() {
        IdeaMousers x = Kit.withHouse(Kit.HOUSE);
        does(x, "join 1 0;", 1, 0);
        Kit.due("the first is greater", x.scheme(1, 1), 14);
        Kit.due("the second lives no more", x.told(5), 14);
        Kit.due("is joined", x.told(7), 1);
        Kit.due("not on the mat", x.told(6), 0);
        Kit.due("its last size", x.scheme(0, 1), 5);
        Kit.due("no cat took it", x.scheme(0, 5), -1);
        Kit.due("in no night", x.scheme(0, 4), -1);
    }

    static void joinIs999AtMost() {
        String house = "room 60;scheme 0 60 0;scheme 0 60 0;scheme 0 1 0;";
        IdeaMousers x = Kit.withHouse(house);
        does(x, "again 14 [feed 0 60;];feed 0 38;feed 0 1;join 0 1;", 17, 0);
        Kit.due("999 by the sum", x.scheme(0, 1), 999);
        does(x, "join 0 2;", 1, 0);
        Kit.due("999 stays", x.scheme(0, 1), 999);
        Kit.due("both are joined", x.told(7), 6);
        IdeaMousers y = Kit.withHouse(house);
        does(y, "again 15 [feed 0 60;];feed 0 37;join 0 2;", 17, 0);
        Kit.due("998 by the sum", y.scheme(0, 1), 998);
    }

    static void joinIsRefusedIfTheyAreOne() {
        refuses(Kit.HOUSE, "", "join 0 0;");
    }

    static void joinIsRefusedIfTheyAreNotInOneRoom() {
        refuses(Kit.HOUSE, "", "join 0 2;");
        refuses(Kit.HOUSE, "hide 1 1;", "join 0 1;");
    }

    static void joinIsRefusedIfOneDoesNotLive() {
        refuses(Kit.HOUSE, "night;", "join 0 1;");
        refuses(Kit.HOUSE, "night;", "join 1 0;");
        refuses(Kit.HOUSE, "join 0 1;", "join 0 1;");
        refuses(Kit.HOUSE, "join 0 1;", "join 1 0;");
        refuses(Kit.HOUSE, "night;night;", "join 0 1;");
    }

    // ---- shut ----

    static void shutIsOpenAgain() {
        IdeaMousers x = Kit.withHouse("room 0;room 0;" + "way 0 1;".repeat(12));
        does(x, "shut 11;", 1, 0);
        Kit.due("shut", x.told(8), 2048);
        does(x, "shut 0;shut 11;", 2, 0);
        Kit.due("open again", x.told(8), 1);
        does(x, "shut 0;shut 0;shut 0;", 3, 0);
        Kit.due("open", x.told(8), 0);
    }

    // ---- night ----

    static void nightIsRefusedFrom900On() {
        IdeaMousers x = Kit.withHouse("room 60;scheme 0 1 1;");
        for (int i = 0; i < 4; i++) {
            does(x, "again 60 [again 60 [night;];];", 195, 0);
        }
        does(x, "again 2 [again 59 [night;];];night;", 119, 0);
        Kit.due("night 899", x.told(4), 899);
        does(x, "night;", 1, 0);
        Kit.due("night 900", x.told(4), 900);
        Kit.due("it grew", x.scheme(0, 1), 901);
        does(x, "night;night;", 0, 2);
        Kit.due("night 900", x.told(4), 900);
        Kit.due("it does not grow", x.scheme(0, 1), 901);
        does(x, "feed 0 1;", 1, 0);
    }

    static void allThatLiveGrow() {
        IdeaMousers x = Kit.withHouse("room 60;scheme 0 1 2;scheme 0 3 4;scheme 0 5 6;");
        does(x, "join 0 2;night;", 2, 0);
        Kit.due("the first", x.scheme(0, 1), 8);
        Kit.due("the second", x.scheme(1, 1), 7);
        Kit.due("the joined one does not", x.scheme(2, 1), 5);
        IdeaMousers y = Kit.withHouse("room 0;scheme 0 1 2;cat 0 0;");
        does(y, "night;night;", 2, 0);
        Kit.due("a taken one does not", y.scheme(0, 1), 3);
    }

    static void growthIs999AtMost() {
        IdeaMousers x = Kit.withHouse("room 60;scheme 0 60 9;");
        does(x, "again 15 [feed 0 60;];feed 0 29;night;", 17, 0);
        Kit.due("998", x.scheme(0, 1), 998);
        does(x, "night;", 1, 0);
        Kit.due("999", x.scheme(0, 1), 999);
        does(x, "night;", 1, 0);
        Kit.due("999 stays", x.scheme(0, 1), 999);
    }

    static void growthIsAsAllIsAheadOfTheNight() {
        IdeaMousers x = Kit.withHouse("room 0;room 60;scheme 0 1 0;scheme 1 1 0;cat 0 0;");
        Kit.law(x, "10*night+mat");
        does(x, "night;", 1, 0);
        Kit.due("no night, a bare mat", x.scheme(1, 1), 1);
        does(x, "night;", 1, 0);
        Kit.due("night 1, one on the mat", x.scheme(1, 1), 12);
    }

    static void aCatSeesWhatIsMoreThanHide() {
        for (int size = 9; size <= 11; size++) {
            IdeaMousers x = Kit.withHouse("room 20;scheme 0 " + size + " 0;cat 0 10;");
            does(x, "night;", 1, 0);
            Kit.due("taken by " + size + " and 10 of 20", x.told(6), size == 11 ? 1 : 0);
        }
    }

    static void whatItSeesBehindTheGrowth() {
        IdeaMousers x = Kit.withHouse("room 20;scheme 0 8 1;cat 0 10;");
        does(x, "night;night;", 2, 0);
        Kit.due("20 of 20", x.told(5), 1);
        does(x, "night;", 1, 0);
        Kit.due("21 of 20", x.told(5), 0);
    }

    static void inItsOwnRoomAlone() {
        IdeaMousers x = Kit.withHouse("room 0;room 0;way 0 1;scheme 1 9 0;cat 0 20;");
        does(x, "night;", 1, 0);
        Kit.due("lives", x.told(5), 1);
        does(x, "call 0 1;night;", 2, 0);
        Kit.due("taken", x.told(5), 0);
    }

    static void theGreatestOfAlikeOnesTheFirst() {
        IdeaMousers x = Kit.withHouse("room 0;scheme 0 3 0;scheme 0 9 0;scheme 0 9 0;scheme 0 8 0;cat 0 0;");
        int[] order = {1, 2, 3, 0};
        int mat = 0;
        for (int night = 0; night < 4; night++) {
            does(x, "night;", 1, 0);
            mat |= 1 << order[night];
            Kit.due("mat", x.told(6), mat);
            Kit.due("when", x.scheme(order[night], 4), night);
        }
    }

    static void greatestByTheSizeBehindTheGrowth() {
        IdeaMousers x = Kit.withHouse("room 0;scheme 0 9 0;scheme 0 8 2;cat 0 0;");
        does(x, "night;", 1, 0);
        Kit.due("the second", x.told(6), 2);
    }

    static void catByCatOneANight() {
        IdeaMousers x = Kit.withHouse("room 10;scheme 0 5 0;scheme 0 9 0;scheme 0 7 0;cat 0 0;cat 0 5;cat 0 2;");
        does(x, "night;", 1, 0);
        Kit.due("the first sees none", x.cat(0, 2), 0);
        Kit.due("the second takes the greatest", x.scheme(1, 5), 1);
        Kit.due("the third sees none that is left", x.cat(2, 2), 0);
        Kit.due("one lies", x.told(6), 2);
        does(x, "night;night;", 2, 0);
        Kit.due("the next one", x.scheme(2, 4), 1);
        Kit.due("the least is never seen", x.told(5), 1);
    }

    static void whatIsTakenLivesNoMoreAndLiesOnTheMat() {
        IdeaMousers x = Kit.withHouse(Kit.HOUSE);
        does(x, "night;", 1, 0);
        Kit.due("live", x.told(5), 13);
        Kit.due("mat", x.told(6), 2);
        Kit.due("joined", x.told(7), 0);
        Kit.due("night", x.told(4), 1);
        Kit.due("took", x.cat(0, 2), 1);
    }
}
