/** What all tests share: texts onto the tape, answers compared, exceptions awaited. */
final class Kit {
    interface Call {
        long answer();
    }

    /** The house of most tests; the answers that are due by it were worked out by hand. */
    static final String HOUSE =
        "room 10;room 20;room 0;room 30;way 0 1;way 1 2;way 2 0;way 2 3;"
        + "scheme 0 5 2;scheme 0 9 1;scheme 1 15 0;scheme 3 12 3;cat 0 4;cat 2 9;cat 1 0;";

    private static int checks;
    private static int wrong;

    private Kit() {
    }

    /** Feeds a text, filled up with zero bytes behind it; its length. */
    static int put(IdeaMousers x, String text) {
        for (int at = 0; at < text.length(); at += 20) {
            int[] numbers = new int[5];
            for (int i = 0; i < 20; i++) {
                int sign = at + i < text.length() ? text.charAt(at + i) & 255 : 0;
                numbers[i / 4] = numbers[i / 4] << 8 | sign;
            }
            x.feed(numbers[0], numbers[1], numbers[2], numbers[3], numbers[4]);
        }
        return text.length();
    }

    static int house(IdeaMousers x, String text) {
        return x.house(put(x, text));
    }

    static int law(IdeaMousers x, String text) {
        return x.law(put(x, text));
    }

    static int work(IdeaMousers x, String text) {
        return x.work(put(x, text));
    }

    static int book(IdeaMousers x, String text) {
        return x.book(put(x, text));
    }

    static IdeaMousers withHouse(String text) {
        IdeaMousers x = new IdeaMousers();
        house(x, text);
        return x;
    }

    static void due(String what, long got, long want) {
        checks++;
        if (got != want) {
            wrong++;
            System.out.println(what + " answered " + got + ", due is " + want);
        }
    }

    static void dueText(String what, String got, String want) {
        checks++;
        if (!got.equals(want)) {
            wrong++;
            System.out.println(what + " answered " + got + ", due is " + want);
        }
    }

    /** The name of the exception that a call throws, or its answer. */
    static String outcome(Call call) {
        try {
            return Long.toString(call.answer());
        } catch (RuntimeException e) {
            return e.getClass().getSimpleName();
        }
    }

    static void missing(String what, Call call) {
        dueText(what, outcome(call), "NoSuchElementException");
    }

    static void illegal(String what, Call call) {
        dueText(what, outcome(call), "IllegalArgumentException");
    }

    static void end(String name) {
        System.out.println(name + ": " + (checks - wrong) + " right, " + wrong + " wrong");
        System.exit(wrong == 0 ? 0 : 1);
    }
}
