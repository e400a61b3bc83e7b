import java.math.BigInteger;
import java.util.ArrayDeque;
import java.util.ArrayList;
import java.util.Arrays;
import java.util.Deque;
import java.util.HashMap;
import java.util.HashSet;
import java.util.List;
import java.util.Map;
import java.util.NoSuchElementException;

/**
 * The document once more, as slow and as plain as it can be told: whole worlds are copied, all ways
 * are tried. It shares no code with the class and serves to be compared with it.
 */
final class Plain {
    /** A FAULT of a text. */
    private static final class Fault extends RuntimeException {
        private static final long serialVersionUID = 1L;
        final int kind;
        final int place;

        Fault(int kind, int place) {
            this.kind = kind;
            this.place = place;
        }
    }

    private record Token(char type, String text, int at) {
    }

    private interface Formula {
        int of(Map<String, Integer> values);
    }

    private interface Act {
        void on(Runner runner);
    }

    private static final class Runner {
        World world;
        int begun;
        int done;
        int refused;

        boolean mayBegin() {
            if (begun == 200) {
                return false;
            }
            begun++;
            return true;
        }

        void note(boolean could) {
            if (could) {
                done++;
            } else {
                refused++;
            }
        }
    }

    private static final class Plan {
        final List<Integer> hide = new ArrayList<>();
        final List<int[]> ways = new ArrayList<>();
        final List<int[]> schemes = new ArrayList<>();
        final List<int[]> cats = new ArrayList<>();
    }

    private final class World {
        int night;
        boolean[] lives = new boolean[plan.schemes.size()];
        boolean[] mat = new boolean[plan.schemes.size()];
        boolean[] joined = new boolean[plan.schemes.size()];
        int[] room = new int[plan.schemes.size()];
        int[] size = new int[plan.schemes.size()];
        int[] when = new int[plan.schemes.size()];
        int[] taker = new int[plan.schemes.size()];
        int[] catRoom = new int[plan.cats.size()];
        int[] took = new int[plan.cats.size()];
        boolean[] shut = new boolean[plan.ways.size()];

        World() {
            for (int s = 0; s < lives.length; s++) {
                lives[s] = true;
                room[s] = plan.schemes.get(s)[0];
                size[s] = plan.schemes.get(s)[1];
                when[s] = -1;
                taker[s] = -1;
            }
            for (int c = 0; c < catRoom.length; c++) {
                catRoom[c] = plan.cats.get(c)[0];
            }
        }

        World copy() {
            World w = new World();
            w.night = night;
            w.lives = lives.clone();
            w.mat = mat.clone();
            w.joined = joined.clone();
            w.room = room.clone();
            w.size = size.clone();
            w.when = when.clone();
            w.taker = taker.clone();
            w.catRoom = catRoom.clone();
            w.took = took.clone();
            w.shut = shut.clone();
            return w;
        }

        String key() {
            return Arrays.toString(lives) + Arrays.toString(room) + Arrays.toString(size);
        }

        boolean openBetween(int a, int b) {
            for (int w = 0; w < shut.length; w++) {
                int[] way = plan.ways.get(w);
                if (!shut[w] && (way[0] == a && way[1] == b || way[0] == b && way[1] == a)) {
                    return true;
                }
            }
            return false;
        }

        boolean hide(int s, int r) {
            if (!lives[s] || !openBetween(room[s], r)) {
                return false;
            }
            room[s] = r;
            return true;
        }

        boolean call(int c, int r) {
            if (!openBetween(catRoom[c], r)) {
                return false;
            }
            catRoom[c] = r;
            return true;
        }

        boolean feed(int s, int n) {
            if (!lives[s] || size[s] == 999) {
                return false;
            }
            size[s] = Math.min(999, size[s] + n);
            return true;
        }

        boolean join(int a, int b) {
            if (a == b || !lives[a] || !lives[b] || room[a] != room[b]) {
                return false;
            }
            size[a] = Math.min(999, size[a] + size[b]);
            lives[b] = false;
            joined[b] = true;
            return true;
        }

        int more(int s) {
            int cats = 0;
            for (int r : catRoom) {
                cats += r == room[s] ? 1 : 0;
            }
            return growth(size[s], plan.schemes.get(s)[2], plan.hide.get(room[s]), cats, night, many(mat), s);
        }

        boolean sees(int c, int s) {
            return lives[s] && catRoom[c] == room[s]
                && size[s] + plan.cats.get(c)[1] > plan.hide.get(room[s]);
        }

        /** Which SCHEME each CAT takes in it. */
        int[] night() {
            int[] gain = new int[lives.length];
            for (int s = 0; s < lives.length; s++) {
                gain[s] = lives[s] ? more(s) : 0;
            }
            for (int s = 0; s < lives.length; s++) {
                size[s] = Math.min(999, size[s] + gain[s]);
            }
            int[] taken = new int[catRoom.length];
            for (int c = 0; c < catRoom.length; c++) {
                taken[c] = -1;
                for (int s = 0; s < lives.length; s++) {
                    if (sees(c, s) && (taken[c] < 0 || size[s] > size[taken[c]])) {
                        taken[c] = s;
                    }
                }
                if (taken[c] >= 0) {
                    lives[taken[c]] = false;
                    mat[taken[c]] = true;
                    when[taken[c]] = night;
                    taker[taken[c]] = c;
                    took[c]++;
                }
            }
            night++;
            return taken;
        }

        int sizeOfLiving() {
            int sum = 0;
            for (int s = 0; s < lives.length; s++) {
                sum += lives[s] ? size[s] : 0;
            }
            return sum;
        }

        int proudest() {
            int best = -1;
            for (int c = 0; c < took.length; c++) {
                if (took[c] > 0 && (best < 0 || took[c] > took[best])) {
                    best = c;
                }
            }
            return best;
        }

        int far(int a, int b) {
            int[] steps = new int[plan.hide.size()];
            Arrays.fill(steps, -1);
            steps[a] = 0;
            Deque<Integer> queue = new ArrayDeque<>(List.of(a));
            while (!queue.isEmpty()) {
                int at = queue.poll();
                for (int r = 0; r < steps.length; r++) {
                    if (steps[r] < 0 && openBetween(at, r)) {
                        steps[r] = steps[at] + 1;
                        queue.add(r);
                    }
                }
            }
            return steps[b];
        }
    }

    private record Image(World world, List<World> works) {
    }

    private Plan plan = new Plan();
    private Formula law;
    private Map<Integer, Integer> book = new HashMap<>();
    private World world = new World();
    private List<World> works = new ArrayList<>();
    private final List<Image> images = new ArrayList<>();
    private final List<Integer> tape = new ArrayList<>();
    private int faultPlace = -1;
    private int refusedSteps;
    private int missing;
    private int illegal;

    private List<Token> tokens = new ArrayList<>();
    private int at;

    private static int many(boolean[] bits) {
        return Integer.bitCount(bits(bits));
    }

    private static int bits(boolean[] bits) {
        int sum = 0;
        for (int i = 0; i < bits.length; i++) {
            sum |= bits[i] ? 1 << i : 0;
        }
        return sum;
    }

    private int growth(int size, int grow, int hide, int cats, int night, int mat, int scheme) {
        int out = grow;
        if (law != null) {
            out = law.of(Map.of("size", size, "grow", grow, "hide", hide, "cats", cats,
                "night", night, "mat", mat, "scheme", scheme));
        }
        return out < 0 ? 0 : out > 60 ? 60 : out;
    }

    // ---- texts ----

    private void split(int n) {
        StringBuilder text = new StringBuilder();
        for (int i = 0; i < n; i++) {
            text.append((char) (int) tape.get(i));
        }
        tokens = new ArrayList<>();
        at = 0;
        int i = 0;
        while (i < n) {
            int end = i;
            char type;
            if (text.charAt(i) == ' ') {
                i++;
                continue;
            } else if (text.charAt(i) >= '0' && text.charAt(i) <= '9') {
                type = 'n';
                while (end < n && text.charAt(end) >= '0' && text.charAt(end) <= '9') {
                    end++;
                }
            } else if (text.charAt(i) >= 'a' && text.charAt(i) <= 'z') {
                type = 'w';
                while (end < n && text.charAt(end) >= 'a' && text.charAt(end) <= 'z') {
                    end++;
                }
            } else {
                type = 's';
                end++;
            }
            tokens.add(new Token(type, text.substring(i, end), i));
            i = end;
        }
        tokens.add(new Token('e', "", n));
    }

    private Token token() {
        return tokens.get(at);
    }

    private boolean is(String text) {
        return token().type() != 'e' && token().text().equals(text);
    }

    private void want(String text) {
        if (!is(text)) {
            throw new Fault(1, token().at());
        }
        at++;
    }

    private int want(int least, int most) {
        Token token = token();
        if (token.type() != 'n') {
            throw new Fault(1, token.at());
        }
        BigInteger value = new BigInteger(token.text());
        if (value.compareTo(BigInteger.valueOf(least)) < 0 || value.compareTo(BigInteger.valueOf(most)) > 0) {
            throw new Fault(2, token.at());
        }
        at++;
        return value.intValue();
    }

    private void crowded(int have, int most) {
        if (have == most) {
            throw new Fault(3, token().at());
        }
        at++;
    }

    private Plan readHouse() {
        Plan told = new Plan();
        while (token().type() != 'e') {
            if (is("room")) {
                crowded(told.hide.size(), 8);
                told.hide.add(want(0, 60));
            } else if (is("way")) {
                crowded(told.ways.size(), 12);
                int a = want(0, told.hide.size() - 1);
                int place = token().at();
                int b = want(0, told.hide.size() - 1);
                if (a == b) {
                    throw new Fault(2, place);
                }
                told.ways.add(new int[] {a, b});
            } else if (is("scheme")) {
                crowded(told.schemes.size(), 8);
                told.schemes.add(new int[] {want(0, told.hide.size() - 1), want(1, 60), want(0, 9)});
            } else if (is("cat")) {
                crowded(told.cats.size(), 5);
                told.cats.add(new int[] {want(0, told.hide.size() - 1), want(0, 20)});
            } else {
                throw new Fault(1, token().at());
            }
            want(";");
        }
        return told;
    }

    private Formula sum(int open) {
        Formula left = product(open);
        while (is("+") || is("-")) {
            boolean plus = is("+");
            at++;
            Formula a = left;
            Formula b = product(open);
            left = v -> plus ? a.of(v) + b.of(v) : a.of(v) - b.of(v);
        }
        return left;
    }

    private Formula product(int open) {
        Formula left = unit(open);
        while (is("*") || is("/") || is("%")) {
            String sign = token().text();
            at++;
            Formula a = left;
            Formula b = unit(open);
            left = v -> {
                int x = a.of(v);
                int y = b.of(v);
                return sign.equals("*") ? x * y : y == 0 ? 0 : sign.equals("/") ? x / y : x % y;
            };
        }
        return left;
    }

    private Formula unit(int open) {
        Token token = token();
        if (token.type() == 'n') {
            int number = want(0, 999);
            return v -> number;
        }
        if (is("(") || is("least") || is("most")) {
            crowded(open, 6);
        }
        if (token.text().equals("(")) {
            Formula inner = sum(open + 1);
            want(")");
            return inner;
        }
        if (token.text().equals("least") || token.text().equals("most")) {
            want("[");
            Formula a = sum(open + 1);
            want(",");
            Formula b = sum(open + 1);
            want("]");
            boolean least = token.text().equals("least");
            return v -> least ? Math.min(a.of(v), b.of(v)) : Math.max(a.of(v), b.of(v));
        }
        if (List.of("size", "grow", "hide", "cats", "night", "mat", "scheme").contains(token.text())) {
            at++;
            return v -> v.get(token.text());
        }
        throw new Fault(1, token.at());
    }

    private List<Act> acts(String end, int open) {
        List<Act> acts = new ArrayList<>();
        while (!(end.isEmpty() ? token().type() == 'e' : is(end))) {
            acts.add(act(open));
            want(";");
        }
        return acts;
    }

    private Act act(int open) {
        int schemes = plan.schemes.size() - 1;
        int rooms = plan.hide.size() - 1;
        Token token = token();
        if (token.type() != 'w') {
            throw new Fault(1, token.at());
        }
        if (is("again")) {
            crowded(open, 6);
            int times = want(0, 60);
            want("[");
            List<Act> body = acts("]", open + 1);
            want("]");
            return r -> {
                if (r.mayBegin()) {
                    for (int i = 0; i < times; i++) {
                        body.forEach(step -> step.on(r));
                    }
                }
            };
        }
        at++;
        int a;
        int b;
        switch (token.text()) {
            case "hide":
                a = want(0, schemes);
                b = want(0, rooms);
                return r -> {
                    if (r.mayBegin()) {
                        r.note(r.world.hide(a, b));
                    }
                };
            case "call":
                a = want(0, plan.cats.size() - 1);
                b = want(0, rooms);
                return r -> {
                    if (r.mayBegin()) {
                        r.note(r.world.call(a, b));
                    }
                };
            case "feed":
                a = want(0, schemes);
                b = want(1, 60);
                return r -> {
                    if (r.mayBegin()) {
                        r.note(r.world.feed(a, b));
                    }
                };
            case "join":
                a = want(0, schemes);
                b = want(0, schemes);
                return r -> {
                    if (r.mayBegin()) {
                        r.note(r.world.join(a, b));
                    }
                };
            case "shut":
                a = want(0, plan.ways.size() - 1);
                return r -> {
                    if (r.mayBegin()) {
                        r.world.shut[a] = !r.world.shut[a];
                        r.note(true);
                    }
                };
            case "night":
                return r -> {
                    if (r.mayBegin()) {
                        boolean can = r.world.night < 900;
                        if (can) {
                            r.world.night();
                        }
                        r.note(can);
                    }
                };
            default:
                throw new Fault(1, token.at());
        }
    }

    private Map<Integer, Integer> readBook() {
        Map<Integer, Integer> told = new HashMap<>();
        while (token().type() != 'e') {
            int place = token().at();
            int cat = want(0, plan.cats.size() - 1);
            if (told.containsKey(cat)) {
                throw new Fault(2, place);
            }
            told.put(cat, want(0, 1));
            want(";");
        }
        return told;
    }

    private interface Reading {
        int answer();
    }

    private int read(int n, int most, Reading reading) {
        within(n, 0, Math.min(most, tape.size()));
        split(n);
        tape.clear();
        faultPlace = -1;
        try {
            return reading.answer();
        } catch (Fault fault) {
            faultPlace = fault.place;
            return fault.kind - 10;
        }
    }

    private int house() {
        plan = readHouse();
        law = null;
        book = new HashMap<>();
        images.clear();
        works = new ArrayList<>();
        world = new World();
        refusedSteps = 0;
        return plan.schemes.size();
    }

    private int law() {
        Formula told = sum(0);
        if (token().type() != 'e') {
            throw new Fault(1, token().at());
        }
        law = told;
        return 1;
    }

    private int work() {
        if (works.size() == 16) {
            return -20;
        }
        List<Act> acts = acts("", 0);
        works.add(world.copy());
        Runner runner = new Runner();
        runner.world = world;
        acts.forEach(act -> act.on(runner));
        refusedSteps = runner.refused;
        return runner.done;
    }

    // ---- asked ----

    private World later(int n) {
        World w = world.copy();
        for (int i = 0; i < n; i++) {
            w.night();
        }
        return w;
    }

    private int lasts(int s) {
        for (int n = 1; n <= 99 && world.lives[s]; n++) {
            if (!later(n).lives[s]) {
                return n;
            }
        }
        return -1;
    }

    private int slips(int s, int goal) {
        if (!world.lives[s]) {
            return -1;
        }
        Map<String, World> worlds = new HashMap<>();
        worlds.put("", world);
        for (int n = 0; n <= 40; n++) {
            Map<String, World> next = new HashMap<>();
            for (World w : worlds.values()) {
                if (w.room[s] == goal) {
                    return n;
                }
                for (int r = 0; r < plan.hide.size(); r++) {
                    World step = w.copy();
                    if (r != w.room[s] && !step.hide(s, r)) {
                        continue;
                    }
                    step.night();
                    if (step.lives[s]) {
                        next.put(step.key(), step);
                    }
                }
            }
            worlds = next;
        }
        return -1;
    }

    /** The given SCHEMES by CAT, behind them how many and how many WAYS. */
    private int[] hunt() {
        int cats = plan.cats.size();
        int[] best = new int[cats + 2];
        best[cats] = -1;
        tryHunts(new int[cats + 2], 0, best);
        return best;
    }

    private void tryHunts(int[] given, int cat, int[] best) {
        int cats = plan.cats.size();
        if (cat == cats) {
            if (given[cats] > best[cats]
                    || given[cats] == best[cats] && given[cats + 1] < best[cats + 1]) {
                System.arraycopy(given, 0, best, 0, best.length);
            }
            return;
        }
        for (int s = 0; s < plan.schemes.size(); s++) {
            boolean free = world.lives[s];
            for (int c = 0; c < cat; c++) {
                free &= given[c] != s;
            }
            int far = world.far(world.catRoom[cat], world.room[s]);
            if (free && far >= 0 && world.size[s] + plan.cats.get(cat)[1] > plan.hide.get(world.room[s])) {
                int[] next = given.clone();
                next[cat] = s;
                next[cats]++;
                next[cats + 1] += far;
                tryHunts(next, cat + 1, best);
            }
        }
        int[] next = given.clone();
        next[cat] = -1;
        tryHunts(next, cat + 1, best);
    }

    private List<int[]> fitting(Map<Integer, Integer> lines) {
        List<int[]> pairs = new ArrayList<>();
        for (int s = 0; s < plan.schemes.size(); s++) {
            for (int r = 0; r < plan.hide.size() && world.lives[s]; r++) {
                World w = world.copy();
                w.room[s] = r;
                int[] taken = w.night();
                boolean right = true;
                for (Map.Entry<Integer, Integer> line : lines.entrySet()) {
                    right &= taken[line.getKey()] >= 0 == (line.getValue() == 1);
                }
                if (right) {
                    pairs.add(new int[] {s, r});
                }
            }
        }
        return pairs;
    }

    private int look(int what) {
        int best = -1;
        int least = Integer.MAX_VALUE;
        for (int c = 0; c < plan.cats.size(); c++) {
            if (!book.containsKey(c)) {
                int worst = 0;
                for (int k = 0; k <= 1; k++) {
                    Map<Integer, Integer> lines = new HashMap<>(book);
                    lines.put(c, k);
                    worst = Math.max(worst, fitting(lines).size());
                }
                if (worst < least) {
                    least = worst;
                    best = c;
                }
            }
        }
        return what == 0 || best < 0 ? best : least;
    }

    private int sums(int room, int n, int from) {
        if (from == plan.schemes.size()) {
            return n == 0 ? 1 : 0;
        }
        int many = sums(room, n, from + 1);
        if (world.lives[from] && world.room[from] == room) {
            many += sums(room, n - world.size[from], from + 1);
        }
        return many;
    }

    private static int uncle(int v, int w, int what) {
        int[][][] has = {{{v - w, v - w}, {-w, v}}, {{v, -w}, {0, 0}}};
        int many = 0;
        int first = -1;
        for (int a = 0; a < 2; a++) {
            for (int b = 0; b < 2; b++) {
                if (has[1 - a][b][0] <= has[a][b][0] && has[a][1 - b][1] <= has[a][b][1]) {
                    first = many == 0 ? 10 * a + b : first;
                    many++;
                }
            }
        }
        if (what == 0) {
            return many;
        }
        return what == 1 ? first : first < 0 ? 0 : has[first / 10][first % 10][0] + has[first / 10][first % 10][1];
    }

    private static long boat(int n, int k, int q, int part) {
        BigInteger above = BigInteger.ZERO;
        for (int set = 0; set < 1 << n; set++) {
            int left = Integer.bitCount(set);
            if (left >= k) {
                above = above.add(BigInteger.valueOf(16 - q).pow(left).multiply(BigInteger.valueOf(q).pow(n - left)));
            }
        }
        BigInteger below = BigInteger.valueOf(16).pow(n);
        BigInteger shared = above.gcd(below);
        return (part == 0 ? above : below).divide(shared).longValueExact();
    }

    private int crumbs(int scheme, int schemes, int n) {
        int best = 0;
        for (int bound = 0; bound <= 999; bound++) {
            int sum = 0;
            int own = 0;
            for (int s = 0; s < plan.schemes.size(); s++) {
                int gets = (schemes >> s & 1) == 1 && world.lives[s] ? Math.min(bound, world.size[s]) : 0;
                sum += gets;
                own = s == scheme ? gets : own;
            }
            best = sum <= n ? own : best;
        }
        return best;
    }

    private World season(int seed, int nights, int q) {
        World w = world.copy();
        int[] state = {seed};
        for (int i = 0; i < nights; i++) {
            if (!plan.schemes.isEmpty()) {
                int s = drawn(state, plan.schemes.size());
                w.hide(s, drawn(state, plan.hide.size()));
            }
            if (!plan.cats.isEmpty() && drawn(state, 16) < q) {
                int c = drawn(state, plan.cats.size());
                w.call(c, drawn(state, plan.hide.size()));
            }
            w.night();
        }
        return w;
    }

    private static int drawn(int[] seed, int by) {
        long next = ((seed[0] & 0xFFFFFFFFL) * 1_103_515_245L + 12_345L) & 0xFFFFFFFFL;
        seed[0] = (int) next;
        return (int) (next / 65536 % 32768 % by);
    }

    private boolean seenIn(int size, int room) {
        for (int c = 0; c < plan.cats.size(); c++) {
            if (world.catRoom[c] == room && size + plan.cats.get(c)[1] > plan.hide.get(room)) {
                return true;
            }
        }
        return false;
    }

    private int havens(int size) {
        int bits = 0;
        for (int r = 0; r < plan.hide.size(); r++) {
            bits |= seenIn(size, r) ? 0 : 1 << r;
        }
        return bits;
    }

    private int besides(int room) {
        int bits = 0;
        for (int r = 0; r < plan.hide.size(); r++) {
            bits |= world.openBetween(room, r) ? 1 << r : 0;
        }
        return bits;
    }

    private int livingIn(int room) {
        int bits = 0;
        for (int s = 0; s < plan.schemes.size(); s++) {
            bits |= world.lives[s] && world.room[s] == room ? 1 << s : 0;
        }
        return bits;
    }

    private int weight(int schemes) {
        int sum = 0;
        for (int s = 0; s < plan.schemes.size(); s++) {
            sum += (schemes >> s & 1) == 1 ? world.size[s] : 0;
        }
        return sum;
    }

    private int seenBy(int cat) {
        int bits = 0;
        for (int s = 0; s < plan.schemes.size(); s++) {
            bits |= world.sees(cat, s) ? 1 << s : 0;
        }
        return bits;
    }

    private int safe() {
        int bits = bits(world.lives);
        for (int c = 0; c < plan.cats.size(); c++) {
            bits &= ~seenBy(c);
        }
        return bits;
    }

    private int hungry() {
        int bits = 0;
        for (int c = 0; c < plan.cats.size(); c++) {
            bits |= seenBy(c) == 0 ? 1 << c : 0;
        }
        return bits;
    }

    private int crowd(int what) {
        int best = -1;
        int most = 0;
        for (int r = 0; r < plan.hide.size(); r++) {
            if (Integer.bitCount(livingIn(r)) > most) {
                most = Integer.bitCount(livingIn(r));
                best = r;
            }
        }
        return what == 0 || best < 0 ? best : most;
    }

    private int greatest(int what) {
        int best = -1;
        for (int s = 0; s < plan.schemes.size(); s++) {
            if (world.lives[s] && (best < 0 || world.size[s] > world.size[best])) {
                best = s;
            }
        }
        return what == 0 || best < 0 ? best : world.size[best];
    }

    private int span(int[] a) {
        int fewest = 99;
        int most = 0;
        int by = 0;
        for (int i = 0; i < a[1]; i++) {
            World w = season(a[0] + i, a[2], a[3]);
            fewest = Math.min(fewest, many(w.lives));
            most = Math.max(most, many(w.lives));
            by += w.lives[a[5]] ? 1 : 0;
        }
        return a[4] == 0 ? fewest : a[4] == 1 ? most : by;
    }

    private int undo() {
        if (works.isEmpty()) {
            return -1;
        }
        // An IMAGE may hold that world too, so it is not changed itself.
        world = works.remove(works.size() - 1).copy();
        refusedSteps = 0;
        return works.size();
    }

    private int image() {
        if (images.size() == 3) {
            return -1;
        }
        images.add(new Image(world.copy(), new ArrayList<>(works)));
        return images.size();
    }

    private int restore() {
        if (images.isEmpty()) {
            return -1;
        }
        Image image = images.remove(images.size() - 1);
        world = image.world();
        works = image.works();
        refusedSteps = 0;
        return images.size();
    }

    private int feed(int[] a) {
        if (tape.size() + 20 > 600) {
            return -1;
        }
        for (int number : a) {
            tape.addAll(List.of(number >>> 24, number >>> 16 & 255, number >>> 8 & 255, number & 255));
        }
        return tape.size();
    }

    private static void within(int value, int least, int most) {
        if (value < least || value > most) {
            throw new IllegalArgumentException();
        }
    }

    private static void one(int value, int many) {
        if (value < 0 || value >= many) {
            throw new NoSuchElementException();
        }
    }

    /** The answer of a call, by its name. */
    long call(String name, int[] a) {
        try {
            return answer(name, a);
        } catch (NoSuchElementException e) {
            missing++;
            throw e;
        } catch (IllegalArgumentException e) {
            illegal++;
            throw e;
        }
    }

    private void check(String name, int[] a) {
        HashSet<String> ofScheme = new HashSet<>(List.of("scheme", "more", "lasts", "slips", "crumbs", "grown", "escapes"));
        HashSet<String> ofRoom = new HashSet<>(List.of("room", "far", "sums", "weight"));
        if (ofScheme.contains(name)) {
            one(a[0], plan.schemes.size());
        }
        if (ofRoom.contains(name)) {
            one(a[0], plan.hide.size());
        }
        if (name.equals("slips") || name.equals("far")) {
            one(a[1], plan.hide.size());
        }
        if (name.equals("cat") || name.equals("prey")) {
            one(a[0], plan.cats.size());
        }
        if (name.equals("way")) {
            one(a[0], plan.ways.size());
        }
        int schemes = plan.schemes.size();
        Map<String, int[][]> bounds = new HashMap<>();
        bounds.put("told", new int[][] {{0, 11}});
        bounds.put("room", new int[][] {{0, 7}, {0, 3}});
        bounds.put("way", new int[][] {{0, 11}, {0, 2}});
        bounds.put("scheme", new int[][] {{0, 7}, {0, 5}});
        bounds.put("cat", new int[][] {{0, 4}, {0, 3}});
        bounds.put("would", new int[][] {{0, 999}, {0, 9}, {0, 60}, {0, 5}, {0, 900}, {0, 8}, {0, 7}});
        bounds.put("ahead", new int[][] {{0, 99}, {0, 2}});
        bounds.put("sums", new int[][] {{0, 7}, {0, 999}});
        bounds.put("uncle", new int[][] {{0, 99}, {0, 99}, {0, 2}});
        bounds.put("boat", new int[][] {{0, 12}, {0, 13}, {0, 16}, {0, 1}});
        bounds.put("crumbs", new int[][] {{0, 7}, {0, (1 << schemes) - 1}, {0, 999}});
        bounds.put("havens", new int[][] {{1, 999}});
        bounds.put("grown", new int[][] {{0, 7}, {0, 99}});
        bounds.put("season", new int[][] {{Integer.MIN_VALUE, Integer.MAX_VALUE}, {1, 96}, {0, 16}, {0, 3}});
        bounds.put("span", new int[][] {{Integer.MIN_VALUE, Integer.MAX_VALUE}, {1, 20}, {1, 96}, {0, 16}, {0, 2}, {0, schemes - 1}});
        for (String asked : List.of("hunt", "fits", "look", "greatest", "proudest", "crowd")) {
            bounds.put(asked, new int[][] {{0, 1}});
        }
        int[][] of = bounds.getOrDefault(name, new int[0][]);
        for (int i = 0; i < of.length; i++) {
            within(a[i], of[i][0], of[i][1]);
        }
    }

    private long answer(String name, int[] a) {
        check(name, a);
        switch (name) {
            case "feed": return feed(a);
            case "house": return read(a[0], 600, this::house);
            case "law": return read(a[0], 150, this::law);
            case "work": return read(a[0], 150, this::work);
            case "book": return read(a[0], 60, () -> {
                book = readBook();
                return book.size();
            });
            case "fault": return faultPlace;
            case "undo": return undo();
            case "told": return told(a[0]);
            case "room": return new int[] {plan.hide.get(a[0]), livingIn(a[0]), catsIn(a[0]), besides(a[0])}[a[1]];
            case "way": return a[1] == 2 ? (world.shut[a[0]] ? 1 : 0) : plan.ways.get(a[0])[a[1]];
            case "scheme": return new int[] {world.room[a[0]], world.size[a[0]], plan.schemes.get(a[0])[2],
                world.lives[a[0]] ? 1 : 0, world.when[a[0]], world.taker[a[0]]}[a[1]];
            case "cat": return new int[] {world.catRoom[a[0]], plan.cats.get(a[0])[1], world.took[a[0]], seenBy(a[0])}[a[1]];
            case "more": return world.more(a[0]);
            case "would": return growth(a[0], a[1], a[2], a[3], a[4], a[5], a[6]);
            case "ahead": return summary(later(a[0]), a[1]);
            case "far": return world.far(a[0], a[1]);
            case "lasts": return lasts(a[0]);
            case "slips": return slips(a[0], a[1]);
            case "hunt": return hunt()[plan.cats.size() + a[0]];
            case "prey": return hunt()[a[0]];
            case "sums": return sums(a[0], a[1], 0);
            case "fits": return fits(a[0]);
            case "look": return look(a[0]);
            case "uncle": return uncle(a[0], a[1], a[2]);
            case "boat": return boat(a[0], a[1], a[2], a[3]);
            case "crumbs": return crumbs(a[0], a[1], a[2]);
            case "greatest": return greatest(a[0]);
            case "proudest": return a[0] == 0 || world.proudest() < 0 ? world.proudest() : world.took[world.proudest()];
            case "safe": return safe();
            case "doomed": return bits(later(1).mat) ^ bits(world.mat);
            case "havens": return havens(a[0]);
            case "hungry": return hungry();
            case "crowd": return crowd(a[0]);
            case "grown": return later(a[1]).lives[a[0]] ? later(a[1]).size[a[0]] : -1;
            case "escapes": return !world.lives[a[0]] ? 0
                : havens(world.size[a[0]]) & (besides(world.room[a[0]]) | 1 << world.room[a[0]]);
            case "weight": return weight(livingIn(a[0]));
            case "season": return summary(season(a[0], a[1], a[2]), a[3]);
            case "span": return span(a);
            case "image": return image();
            case "restore": return restore();
            case "status": return a[0] == 0 ? missing : a[0] == 1 ? illegal : -1;
            case "count": return a[0] == 0 ? images.size() : a[0] == 1 ? tape.size() : a[0] == 2 ? works.size() : -1;
            default: throw new IllegalStateException(name);
        }
    }

    private int fits(int what) {
        List<int[]> pairs = fitting(book);
        if (what == 0) {
            return pairs.size();
        }
        return pairs.isEmpty() ? -1 : 10 * pairs.get(0)[0] + pairs.get(0)[1];
    }

    private int catsIn(int room) {
        int bits = 0;
        for (int c = 0; c < plan.cats.size(); c++) {
            bits |= world.catRoom[c] == room ? 1 << c : 0;
        }
        return bits;
    }

    private int told(int what) {
        return new int[] {plan.hide.size(), plan.ways.size(), plan.schemes.size(), plan.cats.size(),
            world.night, bits(world.lives), bits(world.mat), bits(world.joined), bits(world.shut),
            book.size(), refusedSteps, world.sizeOfLiving()}[what];
    }

    private int summary(World w, int what) {
        return new int[] {bits(w.lives), w.sizeOfLiving(), many(w.mat), w.proudest()}[what];
    }
}
