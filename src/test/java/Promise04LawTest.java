/** Promise 4, with what the Terms say of a LAW and of MORE. */
public final class Promise04LawTest {
    public static void main(String[] args) {
        Kit.run(Promise04LawTest.class);
    }

    private static void is(String text, int value) {
        IdeaMousers x = new IdeaMousers();
        Kit.due("law <" + text + ">", Kit.law(x, text), 1);
        Kit.due("no fault by <" + text + ">", x.fault(), -1);
        Kit.due("value of <" + text + ">", x.would(10, 3, 20, 2, 7, 1, 5), value);
    }

    private static void faulty(String text, int answer, int place) {
        IdeaMousers x = Kit.made(Kit::rich);
        Kit.due("law <" + text + ">", Kit.law(x, text), answer);
        Kit.due("its place", x.fault(), place);
        Kit.due("tape is empty then", x.count(1), 0);
        Kit.due("it is no refusal", x.status(0) + x.status(1), 0);
        Kit.sameAs("all stays by <" + text + ">", x, Kit::rich);
    }

    private static void longTape(IdeaMousers x) {
        Kit.rich(x);
        Kit.put(x, "1" + " ".repeat(179));
    }

    // ---- lengths ----

    static void lengthBelow0IsRefused() {
        Kit.illegal("law(-1)", x -> x.law(-1));
        Kit.illegal("law of the least number", x -> x.law(Integer.MIN_VALUE));
    }

    static void lengthAboveTheTapeIsRefused() {
        Kit.illegal("law(21) of 20", x -> x.law(21));
        Kit.illegal("law(1) of 0", Kit::rich, x -> x.law(1));
        Kit.illegal("law of the greatest number", x -> x.law(Integer.MAX_VALUE));
    }

    static void lengthAbove150IsRefused() {
        Kit.illegal("law(151) of 180", Promise04LawTest::longTape, x -> x.law(151));
        Kit.illegal("law(180) of 180", Promise04LawTest::longTape, x -> x.law(180));
    }

    static void lengthOf150() {
        IdeaMousers x = new IdeaMousers();
        Kit.put(x, " ".repeat(147) + "7+8" + "+9".repeat(15));
        Kit.due("law(150)", x.law(150), 1);
        Kit.due("value", x.would(0, 0, 0, 0, 0, 0, 0), 15);
        Kit.due("what was behind is gone, too", x.count(1), 0);
    }

    static void lengthOfTheTape() {
        IdeaMousers x = new IdeaMousers();
        Kit.put(x, " ".repeat(18) + "21");
        Kit.due("law(20)", x.law(20), 1);
        Kit.due("value", x.would(0, 0, 0, 0, 0, 0, 0), 21);
    }

    static void lengthOf0IsAFault() {
        IdeaMousers x = Kit.made(Kit::richWithTape);
        Kit.due("law(0)", x.law(0), -9);
        Kit.due("its place", x.fault(), 0);
        Kit.due("tape", x.count(1), 0);
        Kit.sameAs("all stays", x, Kit::rich);
    }

    static void onlyTheFirstBytesAreRead() {
        IdeaMousers x = new IdeaMousers();
        Kit.put(x, "sizes");
        Kit.due("what stands behind the text is no part of a word", x.law(4), 1);
        Kit.due("size", x.would(33, 0, 0, 0, 0, 0, 0), 33);
        Kit.put(x, "size");
        Kit.due("law(3) is no word", x.law(3), -9);
        Kit.due("at its first byte", x.fault(), 0);
        Kit.put(x, "125");
        Kit.due("nor of a number", x.law(2), 1);
        Kit.due("12", x.would(0, 0, 0, 0, 0, 0, 0), 12);
        Kit.put(x, "1+2");
        Kit.due("ends behind the sign", x.law(2), -9);
        Kit.due("at the length", x.fault(), 2);
    }

    // ---- what comes out ----

    static void withoutItIsGrow() {
        IdeaMousers x = Kit.withHouse("room 0;scheme 0 1 6;scheme 0 1 0;");
        Kit.due("more", x.more(0), 6);
        Kit.due("more", x.more(1), 0);
        Kit.due("would", x.would(1, 9, 1, 1, 1, 1, 1), 9);
    }

    static void is0AtLeast() {
        is("0", 0);
        is("0-1", 0);
        is("0-999*999", 0);
        is("512*512*512*16", 0);
        is("1-1", 0);
        is("2-1", 1);
    }

    static void is60AtMost() {
        is("59", 59);
        is("60", 60);
        is("61", 60);
        is("999*999", 60);
        is("512*512*512*16-1", 60);
    }

    static void onlyTheOutcomeIsBounded() {
        is("0-5+6", 1);
        is("999-990", 9);
        is("least[999,100]/10", 10);
    }

    static void numbersAre0To999() {
        is("0", 0);
        is("999-950", 49);
        is("00000000000000999-990", 9);
        faulty("1000", -8, 0);
        faulty("5+ 01000)", -8, 3);
        faulty("4294967296", -8, 0);
        faulty("18446744073709551616", -8, 0);
        faulty("9".repeat(150), -8, 0);
    }

    static void words() {
        is("size", 10);
        is("grow", 3);
        is("hide", 20);
        is("cats", 2);
        is("night", 7);
        is("mat", 1);
        is("scheme", 5);
    }

    static void wordsOfASchemeInTheHouse() {
        IdeaMousers x = Kit.withHouse("room 31;room 44;way 0 1;scheme 0 7 8;scheme 0 1 0;scheme 1 25 5;scheme 0 2 0;cat 1 20;cat 1 0;");
        Kit.work(x, "join 1 3;feed 0 2;again 3 [night;];call 1 0;call 0 0;");
        // Scheme 2 was seen by its size of 30 and the nose of 20; it lies on the mat, scheme 3 does not.
        String[] names = {"size", "grow", "hide", "cats", "night", "mat", "scheme"};
        int[] first = {33, 8, 31, 2, 3, 1, 0};
        int[] second = {3, 0, 31, 2, 3, 1, 1};
        for (int i = 0; i < names.length; i++) {
            Kit.law(x, names[i]);
            Kit.due(names[i], x.more(0), first[i]);
            Kit.due(names[i] + " of the second", x.more(1), second[i]);
        }
    }

    static void productsAreDoneAheadOfSums() {
        is("2+3*4", 14);
        is("20-12/4", 17);
        is("20-13%4", 19);
        is("2*3+4*5", 26);
    }

    static void fromTheLeft() {
        is("20-3-2", 15);
        is("20-3+2", 19);
        is("40/4/2", 5);
        is("7%4*2", 6);
        is("2*7%4", 2);
        is("40/4*2", 20);
        is("29%20%5", 4);
    }

    static void brackets() {
        is("(2+3)*4", 20);
        is("40/(4/2)", 20);
        is("20-(3-2)", 19);
        is("((6))", 6);
    }

    static void leastAndMost() {
        is("least[3,4]", 3);
        is("least[4,3]", 3);
        is("least[5,5]", 5);
        is("most[3,4]", 4);
        is("most[4,3]", 4);
        is("most[0-3,0-4]+10", 7);
        is("least[0-3,0-4]+10", 6);
        is("least[1+2,2*4]*most[2,1]", 6);
        is("least[size,most[grow,night]]*2", 14);
        is("most[least[1,2],least[3,4]]", 3);
    }

    static void valuesWrap() {
        is("999*999*999*999", 0);
        is("(0-999*999*999*999)%50", 21);
        is("512*512*512*16+(512*512*512*16-1)+2", 1);
        is("512*512*512*32+9", 9);
        is("0-512*512*512*16-1-999*999*999*2", 60);
    }

    static void divisionCuts() {
        is("7/2", 3);
        is("(0-7)/2+10", 7);
        is("7/(0-2)+10", 7);
        is("(0-7)/(0-2)", 3);
        is("(0-1)/2+4", 4);
    }

    static void restHasTheSignOfWhatIsDivided() {
        is("7%3", 1);
        is("(0-7)%3+10", 9);
        is("7%(0-3)+10", 11);
        is("(0-7)%(0-3)+10", 9);
        is("6%3", 0);
    }

    static void by0BothAre0() {
        is("7/0+1", 1);
        is("7%0+2", 2);
        is("0/0+3", 3);
        is("0%0+4", 4);
        is("(0-7)/(cats-2)+5", 5);
        is("size%(night-7)+6", 6);
    }

    static void theLeastNumberByMinus1() {
        is("(512*512*512*16)/(0-1)%60+30", 22);
        is("(512*512*512*16)%(0-1)+3", 3);
    }

    static void byTheLawSchemesGrow() {
        IdeaMousers x = Kit.withHouse("room 60;scheme 0 1 9;");
        Kit.law(x, "2");
        Kit.work(x, "night;");
        Kit.due("by 2", x.scheme(0, 1), 3);
        Kit.law(x, "5");
        Kit.work(x, "night;");
        Kit.due("by another law", x.scheme(0, 1), 8);
    }

    // ---- how many are open ----

    static void sixOpenAtOneTime() {
        is("((((((6))))))", 6);
        is("least[least[least[least[least[least[9,8],7],6],5],4],3]", 3);
        is("most[1,most[2,most[3,most[4,most[5,most[6,7]]]]]]", 7);
        is("least[(most[(least[(9),8]),7]),6]", 6);
        is("((((((1))))))+((((((2))))))*least[(((((3))))),9]", 7);
    }

    static void sevenSideBySide() {
        is("(1)+(1)+(1)+(1)+(1)+(1)+(1)+(1)", 8);
        is("least[1,2]+least[1,2]+most[1,2]+most[1,2]+(1)+(1)+(1)", 9);
        is("(((((least[1,2]+most[1,3])))))", 4);
    }

    static void theSeventhOpenIsAFault() {
        faulty("(((((((1)))))))", -7, 6);
        faulty("(((((( (1)))))))", -7, 7);
        faulty("((((((least[1,2]))))))", -7, 6);
        faulty("((((((most[1,2]))))))", -7, 6);
        faulty("most[((((((1)))))),1]", -7, 10);
        faulty("least[1,((((((1))))))]", -7, 13);
        faulty("least[least[least[least[least[least[least[1,2],3],4],5],6],7],8]", -7, 36);
        faulty("most[1,most[1,most[1,most[1,most[1,most[1,most[1,2]]]]]]]", -7, 42);
        faulty("((((((1))))))+(((((((1)))))))", -7, 20);
        faulty("((((((1+2)+(3)+((4", -7, 16);
    }

    static void theSeventhOpenBehindEachSign() {
        for (String sign : new String[] {"+", "-", "*", "/", "%"}) {
            faulty("((((((1" + sign + "(2))))))))", -7, 8);
            faulty("((((((1" + sign + "most[2,3]))))))", -7, 8);
            faulty("1" + sign + "least[(((((4*(2))))))," , -7, 15);
            is("least[9,(((((1" + sign + "1)))))]+5", "+-*/%".indexOf(sign) == 0 ? 7 : "*/".contains(sign) ? 6 : 5);
        }
    }

    static void theSeventhOpenWhateverComesBehind() {
        faulty("(((((((", -7, 6);
        faulty("((((((( ", -7, 6);
        faulty("((((((least", -7, 6);
        faulty("((((((most 1000", -7, 6);
        faulty("((((((leasts", -9, 6);
        faulty("((((((1000", -8, 6);
    }

    // ---- other faults ----

    static void atTheEndNothingMore() {
        faulty("size size", -9, 5);
        faulty("1 2", -9, 2);
        faulty("1)", -9, 1);
        faulty("1;", -9, 1);
        faulty("1]", -9, 1);
        faulty("1,2", -9, 1);
        faulty("(1)(2)", -9, 3);
        faulty("size1", -9, 4);
        faulty("1\u0000", -9, 1);
        faulty("1 \t", -9, 2);
    }

    static void whatCannotStandThere() {
        faulty("+1", -9, 0);
        faulty("-1", -9, 0);
        faulty("1++1", -9, 2);
        faulty("1*-1", -9, 2);
        faulty("()", -9, 1);
        faulty("Size", -9, 0);
        faulty("sizes", -9, 0);
        faulty("siz", -9, 0);
        faulty("room", -9, 0);
        faulty("again", -9, 0);
        faulty("least(1,2)", -9, 5);
        faulty("least[1]", -9, 7);
        faulty("least[1;2]", -9, 7);
        faulty("least[1,2,3]", -9, 9);
        faulty("most[1,2)", -9, 8);
        faulty("most[,2]", -9, 5);
        faulty("most[1,]", -9, 7);
        faulty("(1]", -9, 2);
        faulty("1^2", -9, 1);
    }

    static void atTheLengthIfTheTextEndsTooEarly() {
        faulty("   ", -9, 3);
        faulty("1+", -9, 2);
        faulty("1* ", -9, 3);
        faulty("(1", -9, 2);
        faulty("(", -9, 1);
        faulty("least", -9, 5);
        faulty("least[", -9, 6);
        faulty("least[1", -9, 7);
        faulty("least[1,", -9, 8);
        faulty("least[1,2  ", -9, 11);
        faulty(" ".repeat(150), -9, 150);
    }

    static void theFirstFromTheLeft() {
        faulty("1000+x", -8, 0);
        faulty("x+1000", -9, 0);
        faulty("1 1000", -9, 2);
        faulty("(1000", -8, 1);
    }

    static void blanksMayStandAheadOfAllAndAtTheEnd() {
        is("  (  2  +  3  )  *  4  -  most  [  3  ,  4  ]  ", 16);
        is(" size % 4 / 1 ", 2);
    }

    // ---- what a law that stands changes ----

    static void changesNothingElse() {
        IdeaMousers x = Kit.made(Kit::rich);
        Kit.due("law", Kit.law(x, "grow + night + cats"), 1);
        Kit.due("no fault", x.fault(), -1);
        Kit.sameAs("all else stays", x, Kit::rich);
    }

    static void isTheLatest() {
        IdeaMousers x = new IdeaMousers();
        Kit.law(x, "most[1,2]+3*4+size+size");
        Kit.law(x, "8");
        Kit.due("a shorter one", x.would(1, 0, 0, 0, 0, 0, 0), 8);
        Kit.law(x, "8+9");
        Kit.due("a longer one", x.would(1, 0, 0, 0, 0, 0, 0), 17);
    }

    static void staysBehindUndoAndRestore() {
        IdeaMousers x = Kit.withHouse("room 0;scheme 0 1 2;");
        x.image();
        x.work(0);
        Kit.law(x, "9");
        x.undo();
        Kit.due("behind undo", x.more(0), 9);
        x.restore();
        Kit.due("behind restore", x.more(0), 9);
    }
}
