import java.lang.reflect.InvocationTargetException;
import java.lang.reflect.Method;
import java.lang.reflect.Modifier;
import java.util.Arrays;
import java.util.Comparator;

/** What all tests share: running them, texts onto the tape, answers compared, refusals looked at. */
final class Kit {
    interface Ask {
        long of(IdeaMousers x);
    }

    interface Numbered {
        long of(IdeaMousers x, int number);
    }

    interface Change {
        void on(IdeaMousers x);
    }

    /** The house of most tests; the answers that are due by it were worked out by hand. */
    static final String HOUSE =
        "room 10;room 20;room 0;room 30;way 0 1;way 1 2;way 2 0;way 2 3;"
        + "scheme 0 5 2;scheme 0 9 1;scheme 1 15 0;scheme 3 12 3;cat 0 4;cat 2 9;cat 1 0;";

    /** As many of each kind as of no other one: 5 rooms, 6 ways, 3 schemes, 2 cats; each cat sees one. */
    static final String UNEVEN =
        "room 10;room 0;room 12;room 8;room 20;way 0 1;way 1 2;way 2 3;way 3 4;way 4 0;way 0 2;"
        + "scheme 4 7 1;scheme 3 9 2;scheme 4 30 3;cat 3 4;cat 4 1;";

    /** Houses with a fault at their end, ahead of which fewer or more of each kind are told. */
    static final String[] FAULTY_HOUSES = {
        "room 9;room 9;way 0 1;scheme 0 1 1;x",
        "room 9;".repeat(8) + "way 6 7;".repeat(12) + "scheme 6 1 1;".repeat(8) + "cat 6 1;".repeat(5) + "x",
    };

    private static int checks;
    private static int wrong;

    private Kit() {
    }

    // ---- running ----

    /** Runs every test of a class (its static methods that are not private) and ends the program. */
    static void run(Class<?> suite) {
        Method[] methods = suite.getDeclaredMethods();
        Arrays.sort(methods, Comparator.comparing(Method::getName));
        int tests = 0;
        int failed = 0;
        for (Method method : methods) {
            int flags = method.getModifiers();
            boolean isTest = Modifier.isStatic(flags) && !Modifier.isPrivate(flags)
                && !method.isSynthetic() && method.getParameterCount() == 0;
            if (!isTest) {
                continue;
            }
            tests++;
            if (!passes(method)) {
                failed++;
                System.out.println("    by " + suite.getSimpleName() + "." + method.getName());
            }
        }
        System.out.println(suite.getSimpleName() + ": " + (tests - failed) + " tests right, " + failed + " wrong");
        System.exit(failed == 0 && tests > 0 ? 0 : 1);
    }

    private static boolean passes(Method test) {
        checks = 0;
        wrong = 0;
        try {
            test.setAccessible(true);
            test.invoke(null);
        } catch (InvocationTargetException e) {
            System.out.println("threw " + e.getCause());
            return false;
        } catch (IllegalAccessException e) {
            System.out.println("can't be run: " + e);
            return false;
        }
        if (checks == 0) {
            System.out.println("looked at nothing");
        }
        return wrong == 0 && checks > 0;
    }

    // ---- texts ----

    /** Feeds a text, filled up with zero bytes behind it; its length. */
    static int put(IdeaMousers x, String text) {
        for (int at = 0; at < text.length(); at += 20) {
            int[] numbers = new int[5];
            for (int i = 0; i < 20; i++) {
                int sign = at + i < text.length() ? text.charAt(at + i) & 255 : 0;
                numbers[i / 4] = numbers[i / 4] << 8 | sign;
            }
            x.feed(numbers[0], numbers[1], numbers[2], numbers[3], numbers[4]);
        }
        return text.length();
    }

    static int house(IdeaMousers x, String text) {
        return x.house(put(x, text));
    }

    static int law(IdeaMousers x, String text) {
        return x.law(put(x, text));
    }

    static int work(IdeaMousers x, String text) {
        return x.work(put(x, text));
    }

    static int book(IdeaMousers x, String text) {
        return x.book(put(x, text));
    }

    static IdeaMousers withHouse(String text) {
        IdeaMousers x = new IdeaMousers();
        due("house <" + text + ">", house(x, text), text.split("scheme", -1).length - 1);
        return x;
    }

    /** Nothing in it is as in a new object, but the tape: law, book, works, images, refused steps, a fault. */
    static void rich(IdeaMousers x) {
        house(x, HOUSE);
        law(x, "grow+night+cats");
        book(x, "1 1;");
        work(x, "feed 2 3;shut 1;join 0 0;");
        x.image();
        work(x, "night;join 3 3;");
        x.image();
        work(x, "call 1 3;join 2 2;hide 0 1;join 0 2;");
        law(x, "1+x");
    }

    static void richWithTape(IdeaMousers x) {
        rich(x);
        put(x, "room 7;");
    }

    static IdeaMousers made(Change setup) {
        IdeaMousers x = new IdeaMousers();
        setup.on(x);
        return x;
    }

    // ---- answers ----

    static void due(String what, long got, long want) {
        checks++;
        if (got != want) {
            wrong++;
            System.out.println(what + " answered " + got + ", due is " + want);
        }
    }

    static void dueText(String what, String got, String want) {
        checks++;
        if (!got.equals(want)) {
            wrong++;
            System.out.println(what + " answered " + got + ", due is " + want);
        }
    }

    /** The name of the exception that a call throws, or its answer. */
    static String outcome(IdeaMousers x, Ask ask) {
        try {
            return Long.toString(ask.of(x));
        } catch (RuntimeException e) {
            return e.getClass().getSimpleName();
        }
    }

    // ---- calls that are refused, or that only ask ----

    static void missing(String what, Ask ask) {
        refused(what, Kit::richWithTape, ask, 0);
    }

    static void missing(String what, Change setup, Ask ask) {
        refused(what, setup, ask, 0);
    }

    static void illegal(String what, Ask ask) {
        refused(what, Kit::richWithTape, ask, 1);
    }

    static void illegal(String what, Change setup, Ask ask) {
        refused(what, setup, ask, 1);
    }

    /** By the UNEVEN house there are so many of what a call is for, behind a faulty text, too. */
    static void hasSoMany(String what, int many, Numbered ask) {
        IdeaMousers x = withHouse(UNEVEN);
        for (int text = -1; text < FAULTY_HOUSES.length; text++) {
            if (text >= 0) {
                due("a house with a fault", house(x, FAULTY_HOUSES[text]), -9);
            }
            String last = outcome(x, y -> ask.of(y, many - 1));
            due(what + " of the last, " + last, last.endsWith("Exception") ? 1 : 0, 0);
            dueText(what + " of one more", outcome(x, y -> ask.of(y, many)), "NoSuchElementException");
        }
    }

    /** The call throws, is counted by its reason, and changes nothing else. */
    private static void refused(String what, Change setup, Ask ask, int reason) {
        IdeaMousers x = made(setup);
        int fault = x.fault();
        int counted = x.status(reason);
        int others = x.status(1 - reason);
        dueText(what, outcome(x, ask), reason == 0 ? "NoSuchElementException" : "IllegalArgumentException");
        due(what + ": counted", x.status(reason), counted + 1);
        due(what + ": not counted by the other reason", x.status(1 - reason), others);
        due(what + ": the place of the fault stays", x.fault(), fault);
        sameAs(what + ": nothing changes", x, setup);
    }

    /** The call answers so, is not counted as refused, and changes nothing, not even fault(). */
    static void changesNothing(String what, Change setup, Ask ask, long want) {
        IdeaMousers x = made(setup);
        int fault = x.fault();
        int missing = x.status(0);
        int illegal = x.status(1);
        dueText(what, outcome(x, ask), Long.toString(want));
        due(what + ": is no refusal", x.status(0) + x.status(1), missing + illegal);
        due(what + ": the place of the fault stays", x.fault(), fault);
        sameAs(what + ": nothing changes", x, setup);
    }

    /** "Asked, nothing stays changed", and so the same answer comes again. */
    static void asksOnly(String what, Ask ask) {
        long answer = ask.of(made(Kit::richWithTape));
        changesNothing(what, Kit::richWithTape, ask, answer);
        IdeaMousers x = made(Kit::richWithTape);
        ask.of(x);
        due(what + " asked again", ask.of(x), answer);
    }

    /** As an object on which that was done; both are used up. */
    static void sameAs(String what, IdeaMousers x, Change setup) {
        dueText(what, all(x), all(made(setup)));
    }

    /** All that an object tells, its past and its tape too, but fault() and status(); it is used up. */
    static String all(IdeaMousers x) {
        StringBuilder out = new StringBuilder();
        tell(out, x);
        tellStates(out, x);
        out.append(" tape");
        int bytes = x.count(1);
        add(out, bytes, x.house(bytes), x.fault(), x.told(0));
        return out.toString();
    }

    private static void tell(StringBuilder out, IdeaMousers x) {
        for (int what = 0; what <= 11; what++) {
            add(out, x.told(what));
        }
        add(out, x.count(0), x.count(1), x.count(2));
        for (int room = 0; room < x.told(0); room++) {
            add(out.append(" r"), x.room(room, 0), x.room(room, 1), x.room(room, 2), x.room(room, 3));
        }
        for (int way = 0; way < x.told(1); way++) {
            add(out.append(" w"), x.way(way, 0), x.way(way, 1), x.way(way, 2));
        }
        for (int scheme = 0; scheme < x.told(2); scheme++) {
            add(out.append(" s"), x.scheme(scheme, 0), x.scheme(scheme, 1), x.scheme(scheme, 2),
                x.scheme(scheme, 3), x.scheme(scheme, 4), x.scheme(scheme, 5), x.more(scheme));
        }
        for (int cat = 0; cat < x.told(3); cat++) {
            add(out.append(" c"), x.cat(cat, 0), x.cat(cat, 1), x.cat(cat, 2), x.cat(cat, 3));
        }
        add(out.append(" law"), x.would(11, 7, 23, 3, 5, 2, 1), x.would(50, 1, 9, 1, 17, 4, 6));
        add(out.append(" book"), x.fits(0), x.fits(1), x.look(0), x.look(1));
        tellWhatWouldBe(out, x);
    }

    private static void tellWhatWouldBe(StringBuilder out, IdeaMousers x) {
        add(out.append(" would"), x.ahead(5, 1), x.doomed(), x.season(9, 7, 8, 1), x.hunt(0), x.hunt(1));
        for (int cat = 0; cat < x.told(3); cat++) {
            add(out, x.prey(cat));
        }
        for (int scheme = 0; scheme < x.told(2); scheme++) {
            add(out, x.lasts(scheme), x.slips(scheme, x.told(0) - 1));
        }
    }

    /** Asks for all that is and would be, so that what such a call leaves behind would be found. */
    static void askAll(IdeaMousers x) {
        tell(new StringBuilder(), x);
    }

    private static void tellStates(StringBuilder out, IdeaMousers x) {
        for (int image = 0; image <= 3; image++) {
            tellBriefly(out.append(" now"), x);
            for (int work = 0; work < 16 && x.undo() >= 0; work++) {
                tellBriefly(out.append(" undone"), x);
            }
            add(out, x.restore(), x.count(2));
        }
    }

    private static void tellBriefly(StringBuilder out, IdeaMousers x) {
        add(out, x.told(4), x.told(5), x.told(6), x.told(7), x.told(8));
        for (int scheme = 0; scheme < x.told(2); scheme++) {
            add(out, x.scheme(scheme, 0), x.scheme(scheme, 1));
        }
        for (int cat = 0; cat < x.told(3); cat++) {
            add(out, x.cat(cat, 0), x.cat(cat, 2));
        }
    }

    private static void add(StringBuilder out, int... numbers) {
        for (int number : numbers) {
            out.append(' ').append(number);
        }
    }
}
