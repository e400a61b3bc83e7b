import java.lang.reflect.InvocationTargetException;
import java.lang.reflect.Method;
import java.util.ArrayList;
import java.util.Arrays;
import java.util.Collections;
import java.util.List;
import java.util.NoSuchElementException;
import java.util.Random;

/** Long runs of made-up calls, each answer compared with that of Plain. The seeds are fixed. */
public final class OracleTest {
    private static final int RUNS = Integer.getInteger("runs", 150);
    private static final int CALLS = 480;
    private static final int FIRST = Integer.getInteger("first", 0);

    private final Random random;
    private final IdeaMousers x = new IdeaMousers();
    private final Plain plain = new Plain();
    private final int run;
    private final StringBuilder told = new StringBuilder();
    private int calls;
    private int wrong;

    private OracleTest(int run) {
        this.run = run;
        this.random = new Random(run * 7919L + 17);
    }

    public static void main(String[] args) {
        Kit.run(OracleTest.class);
    }

    static void answersAsThePlainOne() throws ReflectiveOperationException {
        int wrong = 0;
        long calls = 0;
        for (int run = FIRST; run < FIRST + RUNS; run++) {
            OracleTest test = new OracleTest(run);
            test.play();
            wrong += test.wrong;
            calls += test.calls;
        }
        Kit.due("wrong answers in " + calls + " calls", wrong, 0);
    }

    /** In most houses the first path that a scheme tries is as good as any; in these it often is not. */
    static void slipsByGatesAsThePlainOne() throws ReflectiveOperationException {
        int wrong = 0;
        for (int run = FIRST; run < FIRST + RUNS; run++) {
            OracleTest test = new OracleTest(run);
            test.slipByGates();
            wrong += test.wrong;
        }
        Kit.due("wrong answers", wrong, 0);
    }

    /** Rooms 0, 1 or 2, 3, 4 or 5, 6, 7 in this order, under other numbers; cats in some of the later ones. */
    private void slipByGates() throws ReflectiveOperationException {
        List<Integer> rooms = new ArrayList<>(List.of(0, 1, 2, 3, 4, 5, 6, 7));
        Collections.shuffle(rooms, random);
        int[][] gates = {{6}, {3, 6}, {6, 7}, {3}, {4, 6}};
        int[] gate = gates[random.nextInt(gates.length)];
        int[] hides = random.ints(8, 0, 61).toArray();
        StringBuilder schemes = new StringBuilder();
        StringBuilder cats = new StringBuilder();
        for (int at : gate) {
            hides[rooms.get(at)] = 10 + random.nextInt(30);
            cats.append("cat " + rooms.get(at) + " " + random.nextInt(9) + ";");
        }
        int ahead = random.nextInt(3);
        for (int i = 0; i < ahead; i++) {
            schemes.append("scheme " + rooms.get(gate[random.nextInt(gate.length)]) + " " + (5 + random.nextInt(40)) + " 1;");
        }
        schemes.append("scheme " + rooms.get(0) + " " + (1 + random.nextInt(8)) + " 2;");
        StringBuilder house = new StringBuilder();
        for (int hide : hides) {
            house.append("room " + hide + ";");
        }
        for (int[] way : new int[][] {{0, 1}, {0, 2}, {1, 3}, {2, 3}, {3, 4}, {3, 5}, {4, 6}, {5, 6}, {6, 7}}) {
            house.append("way " + rooms.get(way[0]) + " " + rooms.get(way[1]) + ";");
        }
        text("house", house.toString() + schemes + cats);
        int by = 3 + random.nextInt(11);
        String[] laws = {"hide%" + by, "(hide+night)%" + by, "(hide+size)%" + by, "(hide*size)%" + by,
            "(hide+size*3+night)%" + by, "most[1,(" + by + "-size)*2]+hide%4", "hide%" + by + "*(1-night%2)"};
        text("law", laws[random.nextInt(laws.length)]);
        compare("slips", ahead, rooms.get(6));
        compare("slips", ahead, rooms.get(7));
    }

    private void play() throws ReflectiveOperationException {
        while (calls < CALLS && wrong == 0) {
            int dice = random.nextInt(100);
            if (calls == 0 || dice < 2) {
                text("house", random.nextInt(12) == 0 ? spoilt(house()) : house());
            } else if (dice < 9) {
                text("law", random.nextInt(3) == 0 ? spoilt(law()) : law());
            } else if (dice < 22) {
                String work = steps(3, 1 + random.nextInt(6));
                text("work", random.nextInt(4) == 0 ? spoilt(work) : work);
            } else if (dice < 30) {
                text("book", random.nextInt(4) == 0 ? spoilt(book()) : book());
            } else if (dice < 34) {
                compare(List.of("undo", "image", "restore").get(random.nextInt(3)));
            } else {
                ask();
            }
        }
    }

    private void text(String name, String text) throws ReflectiveOperationException {
        String cut = text.length() > 600 ? text.substring(0, 600) : text;
        told.append(name).append(" <").append(cut).append(">\n");
        for (int at = 0; at < cut.length(); at += 20) {
            int[] numbers = new int[5];
            for (int i = 0; i < 20; i++) {
                int sign = at + i < cut.length() ? cut.charAt(at + i) : 0;
                numbers[i / 4] = numbers[i / 4] << 8 | sign;
            }
            compare("feed", numbers);
        }
        if (random.nextInt(20) == 0) {
            compare(name, some(cut.length()));
        }
        compare(name, cut.length());
        compare("fault");
        compare("told", 10);
        compare("count", 1);
    }

    private void ask() throws ReflectiveOperationException {
        int rooms = (int) plain.call("told", new int[] {0});
        int schemes = (int) plain.call("told", new int[] {2});
        int cats = (int) plain.call("told", new int[] {3});
        int room = some(rooms);
        int scheme = some(schemes);
        int cat = some(cats);
        switch (random.nextInt(36)) {
            case 0 -> compare("told", some(12));
            case 1 -> compare("room", room, some(4));
            case 2 -> compare("way", some(5), some(3));
            case 3, 4 -> compare("scheme", scheme, some(6));
            case 5 -> compare("cat", cat, some(4));
            case 6 -> compare("more", scheme);
            case 7 -> compare("would", some(1000), some(10), some(61), some(6), some(901), some(9), some(8));
            case 8 -> compare("ahead", some(100), some(3));
            case 9 -> compare("far", room, some(rooms));
            case 10, 11 -> compare("lasts", scheme);
            case 12, 13, 14 -> compare("slips", scheme, some(rooms));
            case 15 -> compare("hunt", some(2));
            case 16 -> compare("prey", cat);
            case 17 -> compare("sums", room, some(random.nextInt(4) == 0 ? 1000 : 60));
            case 18 -> compare("fits", some(2));
            case 19 -> compare("look", some(2));
            case 20 -> compare("uncle", some(100), random.nextInt(3) == 0 ? 0 : some(100), some(3));
            case 21 -> compare("boat", some(13), some(14), some(17), some(2));
            case 22, 23 -> compare("crumbs", scheme, some(1 << schemes), some(random.nextBoolean() ? 1000 : 100));
            case 24 -> compare("greatest", some(2));
            case 25 -> compare("proudest", some(2));
            case 26 -> compare(random.nextBoolean() ? "safe" : "doomed");
            case 27 -> compare("havens", some(random.nextBoolean() ? 1000 : 60));
            case 28 -> compare("hungry");
            case 29 -> compare("crowd", some(2));
            case 30 -> compare("grown", scheme, some(100));
            case 31 -> compare("escapes", scheme);
            case 32 -> compare("weight", room);
            case 33 -> compare("season", random.nextInt(), some(97), some(17), some(4));
            case 34 -> compare("span", random.nextInt(), some(21), some(30), some(17), some(3), scheme);
            default -> compare(random.nextBoolean() ? "status" : "count", some(3));
        }
    }

    /** One of so many from 0 on; now and then one beside them, or any. */
    private int some(int many) {
        if (random.nextInt(40) == 0) {
            int[] beside = {-1, many, -1, many, random.nextInt(), Integer.MIN_VALUE, Integer.MAX_VALUE};
            return beside[random.nextInt(beside.length)];
        }
        return many <= 0 ? 0 : random.nextInt(many);
    }

    private void compare(String name, int... arguments) throws ReflectiveOperationException {
        calls++;
        String want = Kit.outcome(x, y -> plain.call(name, arguments));
        String got = invoke(name, arguments);
        told.append(name).append(Arrays.toString(arguments)).append(" -> ").append(want).append('\n');
        if (!got.equals(want)) {
            wrong++;
            System.out.println(told);
            System.out.println("run " + run + ": the last row answered " + got);
        }
    }

    private String invoke(String name, int[] arguments) throws ReflectiveOperationException {
        Class<?>[] types = new Class<?>[arguments.length];
        Arrays.fill(types, int.class);
        Method method = IdeaMousers.class.getMethod(name, types);
        try {
            return method.invoke(x, Arrays.stream(arguments).boxed().toArray()).toString();
        } catch (InvocationTargetException e) {
            return e.getCause().getClass().getSimpleName();
        }
    }

    // ---- texts ----

    private String blank() {
        return random.nextInt(8) == 0 ? "  " : "";
    }

    private String house() {
        int rooms = random.nextInt(10) == 0 ? random.nextInt(3) : 2 + random.nextInt(7);
        List<String> clauses = new ArrayList<>();
        int tight = random.nextInt(3);
        for (int i = 0; i < rooms; i++) {
            clauses.add("room " + random.nextInt(tight == 0 ? 61 : 35));
        }
        for (int i = rooms < 2 ? 0 : random.nextInt(13); i > 0; i--) {
            int a = random.nextInt(rooms);
            int b = (a + 1 + random.nextInt(rooms - 1)) % rooms;
            clauses.add("way " + a + " " + b);
        }
        for (int i = rooms < 1 ? 0 : random.nextInt(9); i > 0; i--) {
            int size = 1 + random.nextInt(tight == 1 ? 12 : 60);
            clauses.add("scheme " + random.nextInt(rooms) + " " + size + " " + random.nextInt(10));
        }
        for (int i = rooms < 1 ? 0 : random.nextInt(6); i > 0; i--) {
            clauses.add("cat" + random.nextInt(rooms) + " " + random.nextInt(21));
        }
        StringBuilder text = new StringBuilder();
        for (String clause : clauses) {
            text.append(blank()).append(clause).append(blank()).append(';');
        }
        return text + blank();
    }

    private String law() {
        String text = formula(random.nextInt(4));
        return text.length() > 150 ? "size%7" : text;
    }

    private String formula(int depth) {
        StringBuilder text = new StringBuilder(unit(depth));
        for (int i = random.nextInt(4); i > 0; i--) {
            text.append(blank()).append("+-*/%".charAt(random.nextInt(5))).append(blank()).append(unit(depth));
        }
        return text.toString();
    }

    private String unit(int depth) {
        if (depth > 0 && random.nextInt(2) == 0) {
            String inner = formula(depth - 1);
            if (random.nextBoolean()) {
                return "(" + inner + ")";
            }
            return (random.nextBoolean() ? "least" : "most ") + "[" + inner + "," + formula(depth - 1) + "]";
        }
        if (random.nextInt(3) == 0) {
            return "" + random.nextInt(random.nextBoolean() ? 12 : 1001);
        }
        String[] words = {"size", "grow", "hide", "cats", "night", "mat", "scheme"};
        return words[random.nextInt(words.length)];
    }

    private String steps(int depth, int many) {
        StringBuilder text = new StringBuilder();
        for (int i = 0; i < many; i++) {
            String step = step(depth) + blank() + ";";
            if (text.length() + step.length() <= 130) {
                text.append(blank()).append(step);
            }
        }
        return text.toString();
    }

    private String step(int depth) {
        int rooms = Math.max(1, (int) plain.call("told", new int[] {0}));
        int ways = Math.max(1, (int) plain.call("told", new int[] {1}));
        int schemes = Math.max(1, (int) plain.call("told", new int[] {2}));
        int cats = Math.max(1, (int) plain.call("told", new int[] {3}));
        switch (random.nextInt(9)) {
            case 0: case 1: return "hide " + random.nextInt(schemes) + " " + random.nextInt(rooms);
            case 2: return "call " + random.nextInt(cats) + " " + random.nextInt(rooms);
            case 3: return "feed " + random.nextInt(schemes) + " " + (1 + random.nextInt(60));
            case 4: return "join " + random.nextInt(schemes) + " " + random.nextInt(schemes);
            case 5: return "shut" + blank() + random.nextInt(ways);
            case 6: case 7: return "night";
            default: return depth == 0 ? "night" : "again " + random.nextInt(random.nextInt(5) == 0 ? 61 : 4)
                + " [" + steps(depth - 1, random.nextInt(4)) + "]";
        }
    }

    private String book() {
        int cats = Math.max(1, (int) plain.call("told", new int[] {3}));
        StringBuilder text = new StringBuilder();
        for (int i = random.nextInt(4); i > 0; i--) {
            text.append(blank()).append(random.nextInt(cats)).append(' ').append(random.nextInt(2)).append(';');
        }
        return text.toString();
    }

    private String spoilt(String text) {
        StringBuilder spoilt = new StringBuilder(text);
        int place = random.nextInt(text.length() + 1);
        String bad = " ;[](),+-*/%09azroomscheme;again 3 [(least[\u00e9\u0000A\t";
        switch (random.nextInt(4)) {
            case 0 -> spoilt.setLength(place);
            case 1 -> spoilt.insert(place, bad.charAt(random.nextInt(bad.length())));
            case 2 -> spoilt.insert(place, text.substring(place / 2, place));
            default -> {
                if (place < spoilt.length()) {
                    spoilt.setCharAt(place, bad.charAt(random.nextInt(bad.length())));
                }
            }
        }
        return spoilt.toString();
    }
}
