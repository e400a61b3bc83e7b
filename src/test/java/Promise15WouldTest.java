/** Promise 15: more by the law for numbers that are given. */
public final class Promise15WouldTest {
    public static void main(String[] args) {
        Kit.run(Promise15WouldTest.class);
    }

    private static IdeaMousers byLaw(String text) {
        IdeaMousers x = new IdeaMousers();
        Kit.due("law <" + text + ">", Kit.law(x, text), 1);
        return x;
    }

    static void sizeIs0To999() {
        Kit.due("0", byLaw("size").would(0, 1, 1, 1, 1, 1, 1), 0);
        Kit.due("999", byLaw("size-990").would(999, 1, 1, 1, 1, 1, 1), 9);
        Kit.illegal("-1", x -> x.would(-1, 0, 0, 0, 0, 0, 0));
        Kit.illegal("1000", x -> x.would(1000, 0, 0, 0, 0, 0, 0));
    }

    static void growIs0To9() {
        Kit.due("0", byLaw("grow").would(1, 0, 1, 1, 1, 1, 1), 0);
        Kit.due("9", byLaw("grow").would(1, 9, 1, 1, 1, 1, 1), 9);
        Kit.illegal("-1", x -> x.would(0, -1, 0, 0, 0, 0, 0));
        Kit.illegal("10", x -> x.would(0, 10, 0, 0, 0, 0, 0));
    }

    static void hideIs0To60() {
        Kit.due("0", byLaw("hide").would(1, 1, 0, 1, 1, 1, 1), 0);
        Kit.due("60", byLaw("hide").would(1, 1, 60, 1, 1, 1, 1), 60);
        Kit.illegal("-1", x -> x.would(0, 0, -1, 0, 0, 0, 0));
        Kit.illegal("61", x -> x.would(0, 0, 61, 0, 0, 0, 0));
    }

    static void catsAre0To5() {
        Kit.due("0", byLaw("cats").would(1, 1, 1, 0, 1, 1, 1), 0);
        Kit.due("5", byLaw("cats").would(1, 1, 1, 5, 1, 1, 1), 5);
        Kit.illegal("-1", x -> x.would(0, 0, 0, -1, 0, 0, 0));
        Kit.illegal("6", x -> x.would(0, 0, 0, 6, 0, 0, 0));
    }

    static void nightIs0To900() {
        Kit.due("0", byLaw("night").would(1, 1, 1, 1, 0, 1, 1), 0);
        Kit.due("900", byLaw("night-860").would(1, 1, 1, 1, 900, 1, 1), 40);
        Kit.illegal("-1", x -> x.would(0, 0, 0, 0, -1, 0, 0));
        Kit.illegal("901", x -> x.would(0, 0, 0, 0, 901, 0, 0));
    }

    static void matIs0To8() {
        Kit.due("0", byLaw("mat").would(1, 1, 1, 1, 1, 0, 1), 0);
        Kit.due("8", byLaw("mat").would(1, 1, 1, 1, 1, 8, 1), 8);
        Kit.illegal("-1", x -> x.would(0, 0, 0, 0, 0, -1, 0));
        Kit.illegal("9", x -> x.would(0, 0, 0, 0, 0, 9, 0));
    }

    static void schemeIs0To7WhateverTheHouseTells() {
        Kit.due("0", byLaw("scheme").would(1, 1, 1, 1, 1, 1, 0), 0);
        Kit.due("7", byLaw("scheme").would(1, 1, 1, 1, 1, 1, 7), 7);
        Kit.illegal("-1", x -> x.would(0, 0, 0, 0, 0, 0, -1));
        Kit.illegal("8", x -> x.would(0, 0, 0, 0, 0, 0, 8));
    }

    static void wildNumbersAreRefused() {
        Kit.illegal("size", x -> x.would(Integer.MIN_VALUE, 0, 0, 0, 0, 0, 0));
        Kit.illegal("grow", x -> x.would(0, Integer.MAX_VALUE, 0, 0, 0, 0, 0));
        Kit.illegal("hide", x -> x.would(0, 0, Integer.MIN_VALUE, 0, 0, 0, 0));
        Kit.illegal("cats", x -> x.would(0, 0, 0, Integer.MAX_VALUE, 0, 0, 0));
        Kit.illegal("night", x -> x.would(0, 0, 0, 0, Integer.MIN_VALUE, 0, 0));
        Kit.illegal("mat", x -> x.would(0, 0, 0, 0, 0, Integer.MAX_VALUE, 0));
        Kit.illegal("scheme", x -> x.would(0, 0, 0, 0, 0, 0, Integer.MIN_VALUE));
    }

    static void aCallIsCountedOnceHoweverManyAreWrong() {
        Kit.illegal("all", x -> x.would(-1, -1, -1, -1, -1, -1, -1));
    }

    static void withoutALawGrow() {
        Kit.due("all greatest", new IdeaMousers().would(999, 9, 60, 5, 900, 8, 7), 9);
        Kit.due("all least", new IdeaMousers().would(0, 0, 0, 0, 0, 0, 0), 0);
    }

    static void is0AtLeast60AtMost() {
        Kit.due("below", byLaw("size-1").would(0, 0, 0, 0, 0, 0, 0), 0);
        Kit.due("above", byLaw("size").would(61, 0, 0, 0, 0, 0, 0), 60);
    }

    static void byAllNumbersTogether() {
        IdeaMousers x = byLaw("size%100+grow-hide+cats-night%10+mat-scheme");
        Kit.due("greatest", x.would(999, 9, 60, 5, 899, 8, 7), 99 + 9 - 60 + 5 - 9 + 8 - 7);
    }

    static void nothingOfTheHouseCounts() {
        IdeaMousers x = Kit.made(Kit::rich);
        Kit.law(x, "size+grow+hide+cats+night+mat+scheme");
        Kit.due("by what is given", x.would(1, 2, 3, 4, 5, 6, 7), 28);
    }

    static void asksOnly() {
        Kit.asksOnly("would(9, 8, 7, 5, 4, 3, 2)", x -> x.would(9, 8, 7, 5, 4, 3, 2));
    }
}
