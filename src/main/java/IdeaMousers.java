import java.util.NoSuchElementException;

/**
 * Mousers to the imagination: a house with rooms, ways, schemes and cats, told as a text, and the
 * nights that go by in it. What each call promises stands in the project's document (DOC.md); words
 * in capitals in the comments here are the document's own.
 */
public final class IdeaMousers {
    public static final int NONE = -1;

    private static final int MOST_ROOMS = 8;
    private static final int MOST_WAYS = 12;
    private static final int MOST_SCHEMES = 8;
    private static final int MOST_CATS = 5;
    private static final int MOST_SIZE = 999;
    private static final int MOST_HIDE = 60;
    private static final int MOST_GROW = 9;
    private static final int MOST_OPEN = 6;

    private static final int TAPE_BYTES = 600;
    private static final int SHORT_TEXT = 150;
    private static final int BOOK_TEXT = 60;

    private static final int WRONG = 1;
    private static final int NO_SUCH_NUMBER = 2;
    private static final int TOO_MANY = 3;
    private static final int TOO_MANY_WORKS = -20;

    private static final int LAST_NIGHT = 900;
    private static final int LONGEST_AHEAD = 99;
    private static final int MOST_Q = 16;
    private static final int LONGEST_SEASON = 96;
    private static final int MOST_SEEDS = 20;
    private static final int MOST_PLANKS = 12;
    private static final int MOST_STAKE = 99;

    private final Tape tape = new Tape();
    private final House plan = new House();
    private final House draft = new House();
    private final Law rule = new Law();
    private final Book lines = new Book();
    private final Steps steps = new Steps();
    private final State now = new State(plan, rule);
    private final State trial = new State(plan, rule);
    private final Past past = new Past();
    private final Slip slip = new Slip(plan, rule);
    private final Chase chase = new Chase(plan);
    private final Guess guess = new Guess(plan);
    private final Season seeds = new Season(plan);
    private int refusedSteps;
    private int missing;
    private int illegal;

    public IdeaMousers() {
    }

    // ---- texts ----

    public int feed(int a, int b, int c, int d, int e) {
        if (!tape.hasRoomForFive()) {
            return NONE;
        }
        tape.put(a);
        tape.put(b);
        tape.put(c);
        tape.put(d);
        tape.put(e);
        return tape.bytesOnIt();
    }

    public int house(int n) throws IllegalArgumentException {
        openText(n, TAPE_BYTES);
        draft.read(tape);
        if (tape.failed()) {
            return tape.faultAnswer();
        }
        plan.copyFrom(draft);
        rule.forget();
        lines.forget();
        past.forget();
        now.begin();
        refusedSteps = 0;
        return plan.schemes;
    }

    public int law(int n) throws IllegalArgumentException {
        openText(n, SHORT_TEXT);
        rule.read(tape);
        return tape.failed() ? tape.faultAnswer() : 1;
    }

    public int work(int n) throws IllegalArgumentException {
        openText(n, SHORT_TEXT);
        if (past.isFull()) {
            return TOO_MANY_WORKS;
        }
        steps.read(tape, plan);
        if (tape.failed()) {
            return tape.faultAnswer();
        }
        past.keepWork(now);
        steps.begin();
        steps.run(now, 0, steps.many(), 0);
        refusedSteps = steps.refused;
        return steps.done;
    }

    public int book(int n) throws IllegalArgumentException {
        openText(n, BOOK_TEXT);
        lines.read(tape, plan.cats);
        return tape.failed() ? tape.faultAnswer() : lines.many();
    }

    public int fault() {
        return tape.faultPlace();
    }

    public int undo() {
        if (!past.takeBackWork(now)) {
            return NONE;
        }
        refusedSteps = 0;
        return past.works;
    }

    // ---- what is ----

    public int told(int what) throws IllegalArgumentException {
        demandWithin(what, 0, 11);
        switch (what) {
            case 0: return plan.rooms;
            case 1: return plan.ways;
            case 2: return plan.schemes;
            case 3: return plan.cats;
            case 4: return now.night();
            case 5: return now.living();
            case 6: return now.onMat();
            case 7: return now.joined();
            case 8: return now.shutWays();
            case 9: return lines.many();
            case 10: return refusedSteps;
            default: return now.sizeOf(now.living());
        }
    }

    public int room(int room, int what) throws NoSuchElementException, IllegalArgumentException {
        demandOneOf(room, plan.rooms);
        demandWithin(what, 0, 3);
        switch (what) {
            case 0: return plan.hides[room];
            case 1: return now.livingIn(room);
            case 2: return now.catsIn(room);
            default: return now.besides(room);
        }
    }

    public int way(int way, int what) throws NoSuchElementException, IllegalArgumentException {
        demandOneOf(way, plan.ways);
        demandWithin(what, 0, 2);
        switch (what) {
            case 0: return plan.wayFrom[way];
            case 1: return plan.wayTo[way];
            default: return (now.shutWays() >> way) & 1;
        }
    }

    public int scheme(int scheme, int what) throws NoSuchElementException, IllegalArgumentException {
        demandOneOf(scheme, plan.schemes);
        demandWithin(what, 0, 5);
        switch (what) {
            case 0: return now.roomOf(scheme);
            case 1: return now.size(scheme);
            case 2: return plan.grows[scheme];
            case 3: return now.lives(scheme) ? 1 : 0;
            case 4: return now.takenWhen(scheme);
            default: return now.takenBy(scheme);
        }
    }

    public int cat(int cat, int what) throws NoSuchElementException, IllegalArgumentException {
        demandOneOf(cat, plan.cats);
        demandWithin(what, 0, 3);
        switch (what) {
            case 0: return now.roomOfCat(cat);
            case 1: return plan.noses[cat];
            case 2: return now.took(cat);
            default: return now.seenBy(cat);
        }
    }

    public int more(int scheme) throws NoSuchElementException {
        demandOneOf(scheme, plan.schemes);
        return now.growthOf(scheme);
    }

    public int would(int size, int grow, int hide, int cats, int night, int mat, int scheme)
            throws IllegalArgumentException {
        demandWithin(size, 0, MOST_SIZE);
        demandWithin(grow, 0, MOST_GROW);
        demandWithin(hide, 0, MOST_HIDE);
        demandWithin(cats, 0, MOST_CATS);
        demandWithin(night, 0, LAST_NIGHT);
        demandWithin(mat, 0, MOST_SCHEMES);
        demandWithin(scheme, 0, MOST_SCHEMES - 1);
        return rule.growth(size, grow, hide, cats, night, mat, scheme);
    }

    public int greatest(int what) throws IllegalArgumentException {
        demandWithin(what, 0, 1);
        int most = now.greatestOf(now.living());
        if (most == NONE) {
            return NONE;
        }
        return what == 0 ? most : now.size(most);
    }

    public int proudest(int what) throws IllegalArgumentException {
        demandWithin(what, 0, 1);
        int most = now.catThatTookMost();
        if (most == NONE) {
            return NONE;
        }
        return what == 0 ? most : now.took(most);
    }

    public int safe() {
        int seen = 0;
        for (int cat = 0; cat < plan.cats; cat++) {
            seen |= now.seenBy(cat);
        }
        return now.living() & ~seen;
    }

    public int havens(int size) throws IllegalArgumentException {
        demandWithin(size, 1, MOST_SIZE);
        return now.hiddenRooms(size);
    }

    public int hungry() {
        int bits = 0;
        for (int cat = 0; cat < plan.cats; cat++) {
            if (now.seenBy(cat) == 0) {
                bits |= 1 << cat;
            }
        }
        return bits;
    }

    public int crowd(int what) throws IllegalArgumentException {
        demandWithin(what, 0, 1);
        int most = 0;
        int where = NONE;
        for (int room = 0; room < plan.rooms; room++) {
            int many = Integer.bitCount(now.livingIn(room));
            if (many > most) {
                most = many;
                where = room;
            }
        }
        return what == 0 || where == NONE ? where : most;
    }

    public int escapes(int scheme) throws NoSuchElementException {
        demandOneOf(scheme, plan.schemes);
        if (!now.lives(scheme)) {
            return 0;
        }
        int own = now.roomOf(scheme);
        return now.hiddenRooms(now.size(scheme)) & (now.besides(own) | 1 << own);
    }

    public int weight(int room) throws NoSuchElementException {
        demandOneOf(room, plan.rooms);
        return now.sizeOf(now.livingIn(room));
    }

    // ---- what would be ----

    public int ahead(int n, int what) throws IllegalArgumentException {
        demandWithin(n, 0, LONGEST_AHEAD);
        demandWithin(what, 0, 2);
        tryNights(n);
        switch (what) {
            case 0: return trial.living();
            case 1: return trial.sizeOf(trial.living());
            default: return Integer.bitCount(trial.onMat());
        }
    }

    public int grown(int scheme, int n) throws NoSuchElementException, IllegalArgumentException {
        demandOneOf(scheme, plan.schemes);
        demandWithin(n, 0, LONGEST_AHEAD);
        tryNights(n);
        return trial.lives(scheme) ? trial.size(scheme) : NONE;
    }

    public int doomed() {
        tryNights(1);
        return trial.onMat() & ~now.onMat();
    }

    public int far(int room, int other) throws NoSuchElementException {
        demandOneOf(room, plan.rooms);
        demandOneOf(other, plan.rooms);
        return now.distance(room, other);
    }

    public int lasts(int scheme) throws NoSuchElementException {
        demandOneOf(scheme, plan.schemes);
        if (!now.lives(scheme)) {
            return NONE;
        }
        trial.copyFrom(now);
        for (int nights = 1; nights <= LONGEST_AHEAD; nights++) {
            trial.passNight();
            if (!trial.lives(scheme)) {
                return nights;
            }
        }
        return NONE;
    }

    public int slips(int scheme, int room) throws NoSuchElementException {
        demandOneOf(scheme, plan.schemes);
        demandOneOf(room, plan.rooms);
        trial.copyFrom(now);
        return slip.fewestNights(trial, scheme, room);
    }

    public int hunt(int what) throws IllegalArgumentException {
        demandWithin(what, 0, 1);
        chase.solve(now);
        return what == 0 ? chase.given : chase.gone;
    }

    public int prey(int cat) throws NoSuchElementException {
        demandOneOf(cat, plan.cats);
        chase.solve(now);
        return chase.chosen[cat];
    }

    public int sums(int room, int n) throws NoSuchElementException, IllegalArgumentException {
        demandOneOf(room, plan.rooms);
        demandWithin(n, 0, MOST_SIZE);
        int there = now.livingIn(room);
        int many = 0;
        for (int set = 0; set < 1 << plan.schemes; set++) {
            if ((set & ~there) == 0 && now.sizeOf(set) == n) {
                many++;
            }
        }
        return many;
    }

    public int fits(int what) throws IllegalArgumentException {
        demandWithin(what, 0, 1);
        guess.weigh(now, trial, lines);
        return what == 0 ? guess.pairs : guess.first;
    }

    public int look(int what) throws IllegalArgumentException {
        demandWithin(what, 0, 1);
        guess.weigh(now, trial, lines);
        int cat = guess.bestToWatch(lines);
        return what == 0 || cat == NONE ? cat : guess.leftAtWorst(cat);
    }

    public int season(int seed, int nights, int q, int what) throws IllegalArgumentException {
        demandWithin(nights, 1, LONGEST_SEASON);
        demandWithin(q, 0, MOST_Q);
        demandWithin(what, 0, 3);
        trial.copyFrom(now);
        seeds.play(trial, seed, nights, q);
        switch (what) {
            case 0: return trial.living();
            case 1: return trial.sizeOf(trial.living());
            case 2: return Integer.bitCount(trial.onMat());
            default: return trial.catThatTookMost();
        }
    }

    public int span(int seed, int many, int nights, int q, int what, int scheme)
            throws IllegalArgumentException {
        demandWithin(many, 1, MOST_SEEDS);
        demandWithin(nights, 1, LONGEST_SEASON);
        demandWithin(q, 0, MOST_Q);
        demandWithin(what, 0, 2);
        demandWithin(scheme, 0, plan.schemes - 1);
        int fewest = MOST_SCHEMES;
        int most = 0;
        int survived = 0;
        for (int i = 0; i < many; i++) {
            trial.copyFrom(now);
            seeds.play(trial, seed + i, nights, q);
            int alive = Integer.bitCount(trial.living());
            fewest = Math.min(fewest, alive);
            most = Math.max(most, alive);
            survived += trial.lives(scheme) ? 1 : 0;
        }
        switch (what) {
            case 0: return fewest;
            case 1: return most;
            default: return survived;
        }
    }

    // ---- uncle, boat, crumbs ----

    public int uncle(int v, int w, int what) throws IllegalArgumentException {
        demandWithin(v, 0, MOST_STAKE);
        demandWithin(w, 0, MOST_STAKE);
        demandWithin(what, 0, 2);
        int rests = 0;
        int first = NONE;
        int together = 0;
        for (int one = 0; one <= 1; one++) {
            for (int other = 0; other <= 1; other++) {
                if (isRest(v, w, one, other)) {
                    if (rests == 0) {
                        first = 10 * one + other;
                        together = gain(v, w, one, other) + gain(v, w, other, one);
                    }
                    rests++;
                }
            }
        }
        switch (what) {
            case 0: return rests;
            case 1: return first;
            default: return together;
        }
    }

    public long boat(int n, int k, int q, int part) throws IllegalArgumentException {
        demandWithin(n, 0, MOST_PLANKS);
        demandWithin(k, 0, MOST_PLANKS + 1);
        demandWithin(q, 0, MOST_Q);
        demandWithin(part, 0, 1);
        long above = 0;
        long choices = 1;
        for (int left = 0; left <= n; left++) {
            if (left >= k) {
                above += choices * power(MOST_Q - q, left) * power(q, n - left);
            }
            choices = choices * (n - left) / (left + 1);
        }
        long below = power(MOST_Q, n);
        long shared = commonDivisor(below, above);
        if (shared == 0) {
            return 0;
        }
        return (part == 0 ? above : below) / shared;
    }

    public int crumbs(int scheme, int schemes, int n)
            throws NoSuchElementException, IllegalArgumentException {
        demandOneOf(scheme, plan.schemes);
        demandWithin(schemes, 0, (1 << plan.schemes) - 1);
        demandWithin(n, 0, MOST_SIZE);
        int sharing = schemes & now.living();
        if ((sharing >> scheme & 1) == 0) {
            return 0;
        }
        // The halves of 1024 together are above every SIZE, so a bound that binds nobody is reached.
        int bound = 0;
        for (int half = 512; half > 0; half /= 2) {
            if (givenBelow(sharing, bound + half) <= n) {
                bound += half;
            }
        }
        return Math.min(now.size(scheme), bound);
    }

    // ---- images, counts ----

    public int image() {
        return past.keepImage(now) ? past.images : NONE;
    }

    public int restore() {
        if (!past.takeBackImage(now)) {
            return NONE;
        }
        refusedSteps = 0;
        return past.images;
    }

    public int status(int what) {
        switch (what) {
            case 0: return missing;
            case 1: return illegal;
            default: return NONE;
        }
    }

    public int count(int what) {
        switch (what) {
            case 0: return past.images;
            case 1: return tape.bytesOnIt();
            case 2: return past.works;
            default: return NONE;
        }
    }

    // ---- helpers of the face ----

    private void demandOneOf(int number, int many) {
        if (number < 0 || number >= many) {
            missing++;
            throw new NoSuchElementException("no such room, way, scheme or cat");
        }
    }

    private void demandWithin(int value, int least, int most) {
        if (value < least || value > most) {
            illegal++;
            throw new IllegalArgumentException("a number outside its bounds");
        }
    }

    private void openText(int n, int most) {
        demandWithin(n, 0, Math.min(tape.bytesOnIt(), most));
        tape.open(n);
    }

    private void tryNights(int nights) {
        trial.copyFrom(now);
        for (int i = 0; i < nights; i++) {
            trial.passNight();
        }
    }

    private int givenBelow(int sharing, int bound) {
        int sum = 0;
        for (int scheme = 0; scheme < plan.schemes; scheme++) {
            if ((sharing >> scheme & 1) == 1) {
                sum += Math.min(now.size(scheme), bound);
            }
        }
        return sum;
    }

    /** What one has who does mine (0 feeds, 1 listens), while the other one does theirs. */
    private static int gain(int v, int w, int mine, int theirs) {
        return (theirs == 0 ? v : 0) - (mine == 0 ? w : 0);
    }

    private static boolean isRest(int v, int w, int one, int other) {
        return gain(v, w, one, other) >= gain(v, w, 1 - one, other)
            && gain(v, w, other, one) >= gain(v, w, 1 - other, one);
    }

    private static long power(int base, int exponent) {
        long product = 1;
        for (int i = 0; i < exponent; i++) {
            product *= base;
        }
        return product;
    }

    /** 100 rounds are plenty: numbers up to 2^48 need some 70. */
    private static long commonDivisor(long a, long b) {
        long great = a;
        long small = b;
        for (int round = 0; round < 100 && small != 0; round++) {
            long rest = great % small;
            great = small;
            small = rest;
        }
        return great;
    }

    /**
     * The TAPE, and the reading of a text on it from the left. Behind the first FAULT nothing more is
     * taken. Blanks are passed as soon as something was taken, so the place it stands at is always
     * that of what comes next.
     */
    private static final class Tape {
        private static final int BYTES_OF_A_FEED = 20;
        private static final int BELOW_FAULTS = 10;
        private static final int BLANK = 32;
        /** Above every number that a text may hold, so that long rows of digits do not wrap. */
        private static final int TOO_GREAT = 100000;

        private final int[] bytes = new int[TAPE_BYTES];
        private int fed;
        private int length;
        private int at;
        private int kind;
        private int place = NONE;
        private int numberPlace;

        int bytesOnIt() {
            return fed;
        }

        boolean hasRoomForFive() {
            return fed + BYTES_OF_A_FEED <= TAPE_BYTES;
        }

        void put(int number) {
            for (int shift = 24; shift >= 0 && fed < TAPE_BYTES; shift -= 8) {
                bytes[fed] = number >> shift & 255;
                fed++;
            }
        }

        /** The bytes stay in their row until the next feed, so the text is read from there. */
        void open(int many) {
            length = Math.min(many, fed);
            fed = 0;
            kind = 0;
            place = NONE;
            moveTo(0);
        }

        boolean failed() {
            return kind != 0;
        }

        int faultAnswer() {
            return kind - BELOW_FAULTS;
        }

        int faultPlace() {
            return place;
        }

        void fail(int faultKind, int faultPlace) {
            if (kind == 0) {
                kind = faultKind;
                place = faultPlace;
            }
        }

        /** The place of what stands next; the length, if nothing does. */
        int next() {
            return at;
        }

        boolean isOver() {
            return kind != 0 || at >= length;
        }

        int peek() {
            return isOver() ? NONE : bytes[at];
        }

        boolean takesSign(char sign) {
            if (peek() != sign) {
                return false;
            }
            moveTo(at + 1);
            return true;
        }

        void expect(char sign) {
            if (!takesSign(sign)) {
                fail(WRONG, at);
            }
        }

        boolean numberIsNext() {
            return isDigit(at);
        }

        int number(int least, int most) {
            numberPlace = at;
            int value = 0;
            int end = at;
            while (end < length && isDigit(end)) {
                value = Math.min(value * 10 + bytes[end] - '0', TOO_GREAT);
                end++;
            }
            if (end == numberPlace) {
                fail(WRONG, numberPlace);
            } else if (value < least || value > most) {
                fail(NO_SUCH_NUMBER, numberPlace);
            }
            moveTo(end);
            return value;
        }

        void failLatestNumber() {
            fail(NO_SUCH_NUMBER, numberPlace);
        }

        /** Whether the whole word that stands next is this one, which is taken then. */
        boolean takesWord(String word) {
            int end = at + word.length();
            if (kind != 0 || end > length || isSmallLetter(end)) {
                return false;
            }
            for (int i = 0; i < word.length(); i++) {
                if (bytes[at + i] != word.charAt(i)) {
                    return false;
                }
            }
            moveTo(end);
            return true;
        }

        private void moveTo(int index) {
            at = index;
            while (at < length && bytes[at] == BLANK) {
                at++;
            }
        }

        private boolean isDigit(int index) {
            return index < length && bytes[index] >= '0' && bytes[index] <= '9';
        }

        private boolean isSmallLetter(int index) {
            return index < length && bytes[index] >= 'a' && bytes[index] <= 'z';
        }
    }

    /** What a HOUSE tells; no call but house changes it. */
    private static final class House {
        private static final int MOST_CLAUSES = 60;
        private static final int MOST_START_SIZE = 60;
        private static final int MOST_NOSE = 20;

        int rooms;
        int ways;
        int schemes;
        int cats;
        final int[] hides = new int[MOST_ROOMS];
        final int[] wayFrom = new int[MOST_WAYS];
        final int[] wayTo = new int[MOST_WAYS];
        final int[] firstRooms = new int[MOST_SCHEMES];
        final int[] firstSizes = new int[MOST_SCHEMES];
        final int[] grows = new int[MOST_SCHEMES];
        final int[] firstCatRooms = new int[MOST_CATS];
        final int[] noses = new int[MOST_CATS];

        void copyFrom(House other) {
            rooms = other.rooms;
            ways = other.ways;
            schemes = other.schemes;
            cats = other.cats;
            System.arraycopy(other.hides, 0, hides, 0, MOST_ROOMS);
            System.arraycopy(other.wayFrom, 0, wayFrom, 0, MOST_WAYS);
            System.arraycopy(other.wayTo, 0, wayTo, 0, MOST_WAYS);
            System.arraycopy(other.firstRooms, 0, firstRooms, 0, MOST_SCHEMES);
            System.arraycopy(other.firstSizes, 0, firstSizes, 0, MOST_SCHEMES);
            System.arraycopy(other.grows, 0, grows, 0, MOST_SCHEMES);
            System.arraycopy(other.firstCatRooms, 0, firstCatRooms, 0, MOST_CATS);
            System.arraycopy(other.noses, 0, noses, 0, MOST_CATS);
        }

        void read(Tape text) {
            rooms = 0;
            ways = 0;
            schemes = 0;
            cats = 0;
            for (int clause = 0; clause <= MOST_CLAUSES && !text.isOver(); clause++) {
                if (clause == MOST_CLAUSES) {
                    text.fail(TOO_MANY, text.next());
                }
                readClause(text);
            }
        }

        private void readClause(Tape text) {
            int start = text.next();
            if (text.takesWord("room")) {
                readRoom(text, start);
            } else if (text.takesWord("way")) {
                readWay(text, start);
            } else if (text.takesWord("scheme")) {
                readScheme(text, start);
            } else if (text.takesWord("cat")) {
                readCat(text, start);
            } else {
                text.fail(WRONG, start);
            }
            text.expect(';');
        }

        private void readRoom(Tape text, int start) {
            if (rooms >= MOST_ROOMS) {
                text.fail(TOO_MANY, start);
                return;
            }
            hides[rooms] = text.number(0, MOST_HIDE);
            rooms++;
        }

        private void readWay(Tape text, int start) {
            if (ways >= MOST_WAYS) {
                text.fail(TOO_MANY, start);
                return;
            }
            wayFrom[ways] = text.number(0, rooms - 1);
            wayTo[ways] = text.number(0, rooms - 1);
            if (wayFrom[ways] == wayTo[ways]) {
                text.failLatestNumber();
            }
            ways++;
        }

        private void readScheme(Tape text, int start) {
            if (schemes >= MOST_SCHEMES) {
                text.fail(TOO_MANY, start);
                return;
            }
            firstRooms[schemes] = text.number(0, rooms - 1);
            firstSizes[schemes] = text.number(1, MOST_START_SIZE);
            grows[schemes] = text.number(0, MOST_GROW);
            schemes++;
        }

        private void readCat(Tape text, int start) {
            if (cats >= MOST_CATS) {
                text.fail(TOO_MANY, start);
                return;
            }
            firstCatRooms[cats] = text.number(0, rooms - 1);
            noses[cats] = text.number(0, MOST_NOSE);
            cats++;
        }
    }

    /** The LAW, kept with each sign behind what it joins, so that no tree is needed. */
    private static final class Law {
        private static final int MOST_NUMBER = 999;
        private static final int MOST_GROWTH = 60;
        private static final int VARIABLES = 7;
        private static final int GROW = 1;
        /** Codes below this are numbers, from here on variables, then what joins two values. */
        private static final int FIRST_VARIABLE = 1000;
        private static final int PLUS = 1010;
        private static final int MINUS = 1011;
        private static final int TIMES = 1012;
        private static final int OVER = 1013;
        private static final int REST = 1014;
        private static final int LEAST = 1015;
        private static final int MOST = 1016;

        private final int[] codes = new int[SHORT_TEXT];
        private int length;
        private final int[] draft = new int[SHORT_TEXT];
        private int draftLength;
        private final int[] given = new int[VARIABLES];
        /** Each of seven levels can leave three values open: of a sum, of a product, of a pair. */
        private final int[] open = new int[32];

        void forget() {
            length = 0;
        }

        void read(Tape text) {
            draftLength = 0;
            readSum(text, 0);
            if (!text.isOver()) {
                text.fail(WRONG, text.next());
            }
            if (!text.failed()) {
                System.arraycopy(draft, 0, codes, 0, draftLength);
                length = draftLength;
            }
        }

        private void readSum(Tape text, int depth) {
            readProduct(text, depth);
            for (int i = 0; i < SHORT_TEXT; i++) {
                int code = text.takesSign('+') ? PLUS : text.takesSign('-') ? MINUS : NONE;
                if (code == NONE) {
                    return;
                }
                readProduct(text, depth);
                put(code);
            }
        }

        private void readProduct(Tape text, int depth) {
            readUnit(text, depth);
            for (int i = 0; i < SHORT_TEXT; i++) {
                int code = text.takesSign('*') ? TIMES
                    : text.takesSign('/') ? OVER : text.takesSign('%') ? REST : NONE;
                if (code == NONE) {
                    return;
                }
                readUnit(text, depth);
                put(code);
            }
        }

        private void readUnit(Tape text, int depth) {
            int start = text.next();
            if (text.numberIsNext()) {
                put(text.number(0, MOST_NUMBER));
            } else if (text.takesSign('(')) {
                readBracket(text, start, depth);
            } else if (text.takesWord("least")) {
                readPair(text, start, depth, LEAST);
            } else if (text.takesWord("most")) {
                readPair(text, start, depth, MOST);
            } else {
                int variable = readVariable(text);
                if (variable == NONE) {
                    text.fail(WRONG, start);
                } else {
                    put(FIRST_VARIABLE + variable);
                }
            }
        }

        private void readBracket(Tape text, int start, int depth) {
            if (depth >= MOST_OPEN) {
                text.fail(TOO_MANY, start);
                return;
            }
            readSum(text, depth + 1);
            text.expect(')');
        }

        private void readPair(Tape text, int start, int depth, int code) {
            if (depth >= MOST_OPEN) {
                text.fail(TOO_MANY, start);
                return;
            }
            text.expect('[');
            readSum(text, depth + 1);
            text.expect(',');
            readSum(text, depth + 1);
            text.expect(']');
            put(code);
        }

        /** The numbers are the places of the parameters of growth. */
        private static int readVariable(Tape text) {
            if (text.takesWord("size")) {
                return 0;
            }
            if (text.takesWord("grow")) {
                return GROW;
            }
            if (text.takesWord("hide")) {
                return 2;
            }
            if (text.takesWord("cats")) {
                return 3;
            }
            if (text.takesWord("night")) {
                return 4;
            }
            if (text.takesWord("mat")) {
                return 5;
            }
            return text.takesWord("scheme") ? 6 : NONE;
        }

        private void put(int code) {
            if (draftLength < draft.length) {
                draft[draftLength] = code;
                draftLength++;
            }
        }

        /** MORE of a SCHEME for which all this holds. */
        int growth(int size, int grow, int hide, int cats, int night, int mat, int scheme) {
            given[0] = size;
            given[GROW] = grow;
            given[2] = hide;
            given[3] = cats;
            given[4] = night;
            given[5] = mat;
            given[6] = scheme;
            int outcome = length == 0 ? grow : value();
            return Math.max(0, Math.min(MOST_GROWTH, outcome));
        }

        private int value() {
            int top = 0;
            for (int i = 0; i < length; i++) {
                int code = codes[i];
                if (code >= PLUS) {
                    if (top >= 2) {
                        top--;
                        open[top - 1] = joined(code, open[top - 1], open[top]);
                    }
                } else if (top < open.length) {
                    open[top] = code < FIRST_VARIABLE ? code : variable(code - FIRST_VARIABLE);
                    top++;
                }
            }
            return open[0];
        }

        private int variable(int index) {
            return index >= 0 && index < VARIABLES ? given[index] : 0;
        }

        private static int joined(int code, int left, int right) {
            switch (code) {
                case PLUS: return left + right;
                case MINUS: return left - right;
                case TIMES: return left * right;
                case OVER: return right == 0 ? 0 : left / right;
                case REST: return right == 0 ? 0 : left % right;
                case LEAST: return left < right ? left : right;
                default: return left > right ? left : right;
            }
        }
    }

    /** The BOOK, as bits of CATS. */
    private static final class Book {
        private int inLines;
        private int taking;

        void forget() {
            inLines = 0;
            taking = 0;
        }

        void read(Tape text, int cats) {
            int newInLines = 0;
            int newTaking = 0;
            for (int line = 0; line < BOOK_TEXT && !text.isOver(); line++) {
                int cat = text.number(0, cats - 1);
                if (!text.failed() && (newInLines >> cat & 1) == 1) {
                    text.failLatestNumber();
                }
                int kind = text.number(0, 1);
                text.expect(';');
                if (!text.failed()) {
                    newInLines |= 1 << cat;
                    newTaking |= kind << cat;
                }
            }
            if (!text.failed()) {
                inLines = newInLines;
                taking = newTaking;
            }
        }

        int many() {
            return Integer.bitCount(inLines);
        }

        boolean hasLineOf(int cat) {
            return (inLines >> cat & 1) == 1;
        }

        boolean agreesWith(int catsThatTook) {
            return (catsThatTook & inLines) == taking;
        }
    }

    /** A WORK, its STEPS in one row: the body of an again stands right behind it. */
    private static final class Steps {
        /** The shortest STEP has six bytes. */
        private static final int MOST_STEPS = SHORT_TEXT / 6;
        private static final int MOST_BEGUN = 200;
        private static final int MOST_FEED = 60;
        private static final int MOST_TIMES = 60;
        private static final int HIDE = 0;
        private static final int CALL = 1;
        private static final int FEED = 2;
        private static final int JOIN = 3;
        private static final int SHUT = 4;
        private static final int NIGHT = 5;
        private static final int AGAIN = 6;

        private final int[] kinds = new int[MOST_STEPS];
        private final int[] firsts = new int[MOST_STEPS];
        private final int[] seconds = new int[MOST_STEPS];
        /** The STEP that comes behind each one, behind its body too. */
        private final int[] behind = new int[MOST_STEPS];
        private int length;
        private int begun;
        int done;
        int refused;

        void read(Tape text, House plan) {
            length = 0;
            for (int i = 0; i < SHORT_TEXT && !text.isOver(); i++) {
                readStep(text, plan, 0);
            }
        }

        private void readStep(Tape text, House plan, int depth) {
            int start = text.next();
            if (text.takesWord("hide")) {
                put(HIDE, text.number(0, plan.schemes - 1), text.number(0, plan.rooms - 1));
            } else if (text.takesWord("call")) {
                put(CALL, text.number(0, plan.cats - 1), text.number(0, plan.rooms - 1));
            } else if (text.takesWord("feed")) {
                put(FEED, text.number(0, plan.schemes - 1), text.number(1, MOST_FEED));
            } else if (text.takesWord("join")) {
                put(JOIN, text.number(0, plan.schemes - 1), text.number(0, plan.schemes - 1));
            } else if (text.takesWord("shut")) {
                put(SHUT, text.number(0, plan.ways - 1), 0);
            } else if (text.takesWord("night")) {
                put(NIGHT, 0, 0);
            } else if (text.takesWord("again")) {
                readAgain(text, plan, start, depth);
            } else {
                text.fail(WRONG, start);
            }
            text.expect(';');
        }

        private void readAgain(Tape text, House plan, int start, int depth) {
            if (depth >= MOST_OPEN) {
                text.fail(TOO_MANY, start);
                return;
            }
            int mine = length;
            put(AGAIN, text.number(0, MOST_TIMES), 0);
            text.expect('[');
            for (int i = 0; i < SHORT_TEXT && !text.isOver() && text.peek() != ']'; i++) {
                readStep(text, plan, depth + 1);
            }
            text.expect(']');
            if (mine < MOST_STEPS) {
                behind[mine] = length;
            }
        }

        private void put(int kind, int first, int second) {
            if (length < MOST_STEPS) {
                kinds[length] = kind;
                firsts[length] = first;
                seconds[length] = second;
                length++;
                behind[length - 1] = length;
            }
        }

        void begin() {
            begun = 0;
            done = 0;
            refused = 0;
        }

        int many() {
            return length;
        }

        /** The STEPS from one on and ahead of another one, that stand in so many agains. */
        void run(State state, int from, int to, int depth) {
            int step = from;
            while (step < to && begun < MOST_BEGUN) {
                begun++;
                if (kinds[step] == AGAIN) {
                    repeatBody(state, step, depth);
                } else if (isDone(state, kinds[step], firsts[step], seconds[step])) {
                    done++;
                } else {
                    refused++;
                }
                step = behind[step];
            }
        }

        private void repeatBody(State state, int step, int depth) {
            if (depth >= MOST_OPEN) {
                return;
            }
            for (int time = 0; time < firsts[step] && begun < MOST_BEGUN; time++) {
                run(state, step + 1, behind[step], depth + 1);
            }
        }

        private static boolean isDone(State state, int kind, int first, int second) {
            switch (kind) {
                case HIDE: return state.hideScheme(first, second);
                case CALL: return state.callCat(first, second);
                case FEED: return state.feedScheme(first, second);
                case JOIN: return state.joinSchemes(first, second);
                case SHUT: return state.turnWay(first);
                default: break;
            }
            if (state.night() >= LAST_NIGHT) {
                return false;
            }
            state.passNight();
            return true;
        }
    }

    /** All that WORK changes, in one row, so that copying is one move. */
    private static final class State {
        static final int ROW = 5 + 4 * MOST_SCHEMES + 2 * MOST_CATS;
        private static final int NIGHT = 0;
        private static final int LIVE = 1;
        private static final int MAT = 2;
        private static final int JOINED = 3;
        private static final int SHUT = 4;
        private static final int ROOM = 5;
        private static final int SIZE = ROOM + MOST_SCHEMES;
        private static final int WHEN = SIZE + MOST_SCHEMES;
        private static final int TAKER = WHEN + MOST_SCHEMES;
        private static final int CAT_ROOM = TAKER + MOST_SCHEMES;
        private static final int TOOK = CAT_ROOM + MOST_CATS;

        private final House plan;
        private final Law rule;
        final int[] row = new int[ROW];
        /** What each CAT took in the latest NIGHT; NONE. */
        final int[] caught = new int[MOST_CATS];

        State(House plan, Law rule) {
            this.plan = plan;
            this.rule = rule;
        }

        void copyFrom(State other) {
            System.arraycopy(other.row, 0, row, 0, ROW);
        }

        void begin() {
            row[NIGHT] = 0;
            row[LIVE] = (1 << plan.schemes) - 1;
            row[MAT] = 0;
            row[JOINED] = 0;
            row[SHUT] = 0;
            for (int scheme = 0; scheme < plan.schemes; scheme++) {
                row[ROOM + scheme] = plan.firstRooms[scheme];
                row[SIZE + scheme] = plan.firstSizes[scheme];
                row[WHEN + scheme] = NONE;
                row[TAKER + scheme] = NONE;
            }
            for (int cat = 0; cat < plan.cats; cat++) {
                row[CAT_ROOM + cat] = plan.firstCatRooms[cat];
                row[TOOK + cat] = 0;
            }
        }

        int night() {
            return row[NIGHT];
        }

        int living() {
            return row[LIVE];
        }

        int onMat() {
            return row[MAT];
        }

        int joined() {
            return row[JOINED];
        }

        int shutWays() {
            return row[SHUT];
        }

        int roomOf(int scheme) {
            return row[ROOM + scheme];
        }

        int size(int scheme) {
            return row[SIZE + scheme];
        }

        int takenWhen(int scheme) {
            return row[WHEN + scheme];
        }

        int takenBy(int scheme) {
            return row[TAKER + scheme];
        }

        int roomOfCat(int cat) {
            return row[CAT_ROOM + cat];
        }

        int took(int cat) {
            return row[TOOK + cat];
        }

        boolean lives(int scheme) {
            return (row[LIVE] >> scheme & 1) == 1;
        }

        void putInto(int scheme, int room) {
            row[ROOM + scheme] = room;
        }

        /** As if it had never been: it lives no more, but is not on the mat. */
        void leaveOut(int scheme) {
            row[LIVE] &= ~(1 << scheme);
        }

        int livingIn(int room) {
            int bits = 0;
            for (int scheme = 0; scheme < plan.schemes; scheme++) {
                if (lives(scheme) && roomOf(scheme) == room) {
                    bits |= 1 << scheme;
                }
            }
            return bits;
        }

        int catsIn(int room) {
            int bits = 0;
            for (int cat = 0; cat < plan.cats; cat++) {
                if (roomOfCat(cat) == room) {
                    bits |= 1 << cat;
                }
            }
            return bits;
        }

        int sizeOf(int schemes) {
            int sum = 0;
            for (int scheme = 0; scheme < plan.schemes; scheme++) {
                if ((schemes >> scheme & 1) == 1) {
                    sum += size(scheme);
                }
            }
            return sum;
        }

        int greatestOf(int schemes) {
            int best = NONE;
            for (int scheme = 0; scheme < plan.schemes; scheme++) {
                if ((schemes >> scheme & 1) == 1 && (best == NONE || size(scheme) > size(best))) {
                    best = scheme;
                }
            }
            return best;
        }

        int catThatTookMost() {
            int best = NONE;
            int most = 0;
            for (int cat = 0; cat < plan.cats; cat++) {
                if (took(cat) > most) {
                    most = took(cat);
                    best = cat;
                }
            }
            return best;
        }

        /** Whether a CAT would SEE a SCHEME of that SIZE, were both in that ROOM. */
        boolean wouldSee(int cat, int size, int room) {
            return size + plan.noses[cat] > plan.hides[room];
        }

        int seenBy(int cat) {
            int bits = 0;
            int room = roomOfCat(cat);
            for (int scheme = 0; scheme < plan.schemes; scheme++) {
                if (lives(scheme) && roomOf(scheme) == room && wouldSee(cat, size(scheme), room)) {
                    bits |= 1 << scheme;
                }
            }
            return bits;
        }

        int hiddenRooms(int size) {
            int bits = (1 << plan.rooms) - 1;
            for (int cat = 0; cat < plan.cats; cat++) {
                int room = roomOfCat(cat);
                if (wouldSee(cat, size, room)) {
                    bits &= ~(1 << room);
                }
            }
            return bits;
        }

        int besides(int room) {
            int bits = 0;
            for (int way = 0; way < plan.ways; way++) {
                if ((row[SHUT] >> way & 1) == 0) {
                    if (plan.wayFrom[way] == room) {
                        bits |= 1 << plan.wayTo[way];
                    } else if (plan.wayTo[way] == room) {
                        bits |= 1 << plan.wayFrom[way];
                    }
                }
            }
            return bits;
        }

        int distance(int from, int to) {
            int reached = 1 << from;
            int latest = reached;
            for (int ways = 0; ways < MOST_ROOMS && latest != 0; ways++) {
                if ((latest >> to & 1) == 1) {
                    return ways;
                }
                int wider = 0;
                for (int room = 0; room < plan.rooms; room++) {
                    if ((latest >> room & 1) == 1) {
                        wider |= besides(room);
                    }
                }
                latest = wider & ~reached;
                reached |= wider;
            }
            return NONE;
        }

        int growthOf(int scheme) {
            int room = roomOf(scheme);
            return rule.growth(size(scheme), plan.grows[scheme], plan.hides[room],
                Integer.bitCount(catsIn(room)), night(), Integer.bitCount(onMat()), scheme);
        }

        boolean hideScheme(int scheme, int room) {
            if (!lives(scheme) || (besides(roomOf(scheme)) >> room & 1) == 0) {
                return false;
            }
            row[ROOM + scheme] = room;
            return true;
        }

        boolean callCat(int cat, int room) {
            if ((besides(roomOfCat(cat)) >> room & 1) == 0) {
                return false;
            }
            row[CAT_ROOM + cat] = room;
            return true;
        }

        boolean feedScheme(int scheme, int n) {
            if (!lives(scheme) || size(scheme) == MOST_SIZE) {
                return false;
            }
            enlarge(scheme, n);
            return true;
        }

        boolean joinSchemes(int first, int second) {
            if (first == second || !lives(first) || !lives(second)
                    || roomOf(first) != roomOf(second)) {
                return false;
            }
            enlarge(first, size(second));
            row[LIVE] &= ~(1 << second);
            row[JOINED] |= 1 << second;
            return true;
        }

        boolean turnWay(int way) {
            row[SHUT] ^= 1 << way;
            return true;
        }

        /** Gives the CATS (bits) that took one. */
        int passNight() {
            // No growth changes what another one's MORE is made of, so one loop keeps "as all is ahead".
            for (int scheme = 0; scheme < plan.schemes; scheme++) {
                if (lives(scheme)) {
                    enlarge(scheme, growthOf(scheme));
                }
            }
            int took = 0;
            for (int cat = 0; cat < plan.cats; cat++) {
                int scheme = living() == 0 ? NONE : greatestOf(seenBy(cat));
                caught[cat] = scheme;
                if (scheme != NONE) {
                    moveToMat(scheme, cat);
                    took |= 1 << cat;
                }
            }
            row[NIGHT]++;
            return took;
        }

        private void moveToMat(int scheme, int cat) {
            row[LIVE] &= ~(1 << scheme);
            row[MAT] |= 1 << scheme;
            row[WHEN + scheme] = night();
            row[TAKER + scheme] = cat;
            row[TOOK + cat]++;
        }

        private void enlarge(int scheme, int by) {
            row[SIZE + scheme] = Math.min(MOST_SIZE, size(scheme) + by);
        }
    }

    /** WORKS that can be undone, and IMAGES with theirs, as copies of the row of the State. */
    private static final class Past {
        private static final int MOST_WORKS = 16;
        private static final int MOST_IMAGES = 3;
        private static final int IMAGE = (MOST_WORKS + 1) * State.ROW;
        /** Where in an IMAGE the State itself stands, behind the rows of its WORKS. */
        private static final int OWN_ROW = MOST_WORKS * State.ROW;

        int works;
        int images;
        private final int[] rows = new int[MOST_WORKS * State.ROW];
        private final int[] kept = new int[MOST_IMAGES * IMAGE];
        private final int[] keptWorks = new int[MOST_IMAGES];

        void forget() {
            works = 0;
            images = 0;
        }

        boolean isFull() {
            return works >= MOST_WORKS;
        }

        void keepWork(State now) {
            if (!isFull()) {
                System.arraycopy(now.row, 0, rows, works * State.ROW, State.ROW);
                works++;
            }
        }

        boolean takeBackWork(State now) {
            if (works <= 0) {
                return false;
            }
            works--;
            System.arraycopy(rows, works * State.ROW, now.row, 0, State.ROW);
            return true;
        }

        boolean keepImage(State now) {
            if (images >= MOST_IMAGES) {
                return false;
            }
            System.arraycopy(rows, 0, kept, images * IMAGE, works * State.ROW);
            System.arraycopy(now.row, 0, kept, images * IMAGE + OWN_ROW, State.ROW);
            keptWorks[images] = works;
            images++;
            return true;
        }

        boolean takeBackImage(State now) {
            if (images <= 0) {
                return false;
            }
            images--;
            works = keptWorks[images];
            System.arraycopy(kept, images * IMAGE, rows, 0, works * State.ROW);
            System.arraycopy(kept, images * IMAGE + OWN_ROW, now.row, 0, State.ROW);
            return true;
        }
    }

    /**
     * SLIPS. While a SCHEME lives, no CAT has taken it, so all others fare as if it were not there:
     * one course of NIGHTS without it serves all its paths, and what differs between paths is its
     * ROOM and SIZE alone. These pairs are kept as bits, a ROOM in 32 words.
     */
    private static final class Slip {
        private static final int MOST_NIGHTS = 40;
        private static final int WORDS = 32;

        private final House plan;
        private final Law rule;
        private final int[] pairs = new int[MOST_ROOMS * WORDS];
        private final int[] moved = new int[MOST_ROOMS * WORDS];
        private int scheme;
        private int night;
        private int mat;
        /** No pair stands outside these words; none at all, if the first is above the last. */
        private int firstWord = WORDS;
        private int lastWord = NONE;

        Slip(House plan, Law rule) {
            this.plan = plan;
            this.rule = rule;
        }

        /** What is handed in as others is used up. */
        int fewestNights(State others, int slipping, int goal) {
            if (!others.lives(slipping)) {
                return NONE;
            }
            int room = others.roomOf(slipping);
            if (room == goal) {
                return 0;
            }
            scheme = slipping;
            clear();
            add(room, others.size(scheme));
            others.leaveOut(scheme);
            for (int nights = 1; nights <= MOST_NIGHTS && firstWord <= lastWord; nights++) {
                spread(others);
                night = others.night();
                mat = Integer.bitCount(others.onMat());
                others.passNight();
                growAll(others);
                if (hasAny(goal)) {
                    return nights;
                }
            }
            return NONE;
        }

        private void spread(State others) {
            for (int room = 0; room < plan.rooms; room++) {
                int from = others.besides(room) | 1 << room;
                for (int word = firstWord; word <= lastWord; word++) {
                    int bits = 0;
                    for (int other = 0; other < plan.rooms; other++) {
                        if ((from >> other & 1) == 1) {
                            bits |= pairs[other * WORDS + word];
                        }
                    }
                    moved[room * WORDS + word] = bits;
                }
            }
        }

        private void growAll(State others) {
            int from = firstWord;
            int to = lastWord;
            clear();
            for (int room = 0; room < plan.rooms; room++) {
                int cats = Integer.bitCount(others.catsIn(room));
                int limit = greatestSpared(others, room);
                for (int word = from; word <= to; word++) {
                    growWord(room, word, cats, limit);
                }
            }
        }

        private void growWord(int room, int word, int cats, int limit) {
            int bits = moved[room * WORDS + word];
            for (int bit = 0; bit < 32 && bits != 0; bit++) {
                if ((bits & 1) == 1) {
                    int size = word * 32 + bit;
                    int growth = rule.growth(size, plan.grows[scheme], plan.hides[room],
                        cats, night, mat, scheme);
                    int after = Math.min(MOST_SIZE, size + growth);
                    if (after <= limit) {
                        add(room, after);
                    }
                }
                bits >>>= 1;
            }
        }

        /** The greatest SIZE by which no CAT there takes it in the NIGHT that the others just had. */
        private int greatestSpared(State others, int room) {
            int limit = MOST_SIZE;
            for (int cat = 0; cat < plan.cats; cat++) {
                if (others.roomOfCat(cat) == room) {
                    int spared = plan.hides[room] - plan.noses[cat];
                    int rival = others.caught[cat];
                    if (rival != NONE) {
                        // Of alike ones the first is taken, so a later rival does not shield its own SIZE.
                        int shielded = others.size(rival) - (rival < scheme ? 0 : 1);
                        spared = Math.max(spared, shielded);
                    }
                    limit = Math.min(limit, spared);
                }
            }
            return limit;
        }

        private void add(int room, int size) {
            int word = size / 32;
            pairs[room * WORDS + word] |= 1 << size % 32;
            firstWord = Math.min(firstWord, word);
            lastWord = Math.max(lastWord, word);
        }

        private boolean hasAny(int room) {
            for (int word = firstWord; word <= lastWord; word++) {
                if (pairs[room * WORDS + word] != 0) {
                    return true;
                }
            }
            return false;
        }

        private void clear() {
            for (int room = 0; room < MOST_ROOMS; room++) {
                for (int word = firstWord; word <= lastWord; word++) {
                    pairs[room * WORDS + word] = 0;
                }
            }
            firstWord = WORDS;
            lastWord = NONE;
        }
    }

    /** HUNT: for each CAT on, and the SCHEMES given to CATS before it, the best that is left. */
    private static final class Chase {
        private static final int SETS = 1 << MOST_SCHEMES;
        /** One SCHEME more outweighs all WAYS that five CATS can go. */
        private static final int WORTH = 100;

        private final House plan;
        private final int[] best = new int[(MOST_CATS + 1) * SETS];
        private final int[] paths = new int[MOST_CATS * MOST_SCHEMES];
        final int[] chosen = new int[MOST_CATS];
        int given;
        int gone;

        Chase(House plan) {
            this.plan = plan;
        }

        void solve(State now) {
            measurePaths(now);
            for (int used = 0; used < SETS; used++) {
                best[plan.cats * SETS + used] = 0;
            }
            for (int cat = plan.cats - 1; cat >= 0; cat--) {
                for (int used = 0; used < 1 << plan.schemes; used++) {
                    if (Integer.bitCount(used) <= cat) {
                        best[cat * SETS + used] = bestFor(cat, used);
                    }
                }
            }
            choose();
        }

        private void measurePaths(State now) {
            for (int cat = 0; cat < plan.cats; cat++) {
                for (int scheme = 0; scheme < plan.schemes; scheme++) {
                    int room = now.roomOf(scheme);
                    boolean visible = now.lives(scheme)
                        && now.wouldSee(cat, now.size(scheme), room);
                    paths[cat * MOST_SCHEMES + scheme] =
                        visible ? now.distance(now.roomOfCat(cat), room) : NONE;
                }
            }
        }

        private int bestFor(int cat, int used) {
            int most = best[(cat + 1) * SETS + used];
            for (int scheme = 0; scheme < plan.schemes; scheme++) {
                if (isFree(cat, scheme, used)) {
                    most = Math.max(most, worth(cat, scheme, used));
                }
            }
            return most;
        }

        private boolean isFree(int cat, int scheme, int used) {
            return (used >> scheme & 1) == 0 && paths[cat * MOST_SCHEMES + scheme] != NONE;
        }

        private int worth(int cat, int scheme, int used) {
            return WORTH - paths[cat * MOST_SCHEMES + scheme]
                + best[(cat + 1) * SETS + (used | 1 << scheme)];
        }

        private void choose() {
            int used = 0;
            given = 0;
            gone = 0;
            for (int cat = 0; cat < plan.cats; cat++) {
                int scheme = firstBest(cat, used);
                chosen[cat] = scheme;
                if (scheme != NONE) {
                    used |= 1 << scheme;
                    given++;
                    gone += paths[cat * MOST_SCHEMES + scheme];
                }
            }
        }

        private int firstBest(int cat, int used) {
            for (int scheme = 0; scheme < plan.schemes; scheme++) {
                if (isFree(cat, scheme, used)
                        && worth(cat, scheme, used) == best[cat * SETS + used]) {
                    return scheme;
                }
            }
            return NONE;
        }
    }

    /** FITS and LOOK. */
    private static final class Guess {
        private final House plan;
        private final int[] taking = new int[MOST_CATS];
        int pairs;
        int first;

        Guess(House plan) {
            this.plan = plan;
        }

        void weigh(State now, State trial, Book lines) {
            pairs = 0;
            first = NONE;
            for (int cat = 0; cat < MOST_CATS; cat++) {
                taking[cat] = 0;
            }
            for (int scheme = 0; scheme < plan.schemes; scheme++) {
                if (now.lives(scheme)) {
                    for (int room = 0; room < plan.rooms; room++) {
                        trial.copyFrom(now);
                        trial.putInto(scheme, room);
                        int took = trial.passNight();
                        if (lines.agreesWith(took)) {
                            countPair(10 * scheme + room, took);
                        }
                    }
                }
            }
        }

        private void countPair(int pair, int took) {
            if (pairs == 0) {
                first = pair;
            }
            pairs++;
            for (int cat = 0; cat < plan.cats; cat++) {
                taking[cat] += took >> cat & 1;
            }
        }

        int leftAtWorst(int cat) {
            return Math.max(taking[cat], pairs - taking[cat]);
        }

        int bestToWatch(Book lines) {
            int best = NONE;
            for (int cat = 0; cat < plan.cats; cat++) {
                if (!lines.hasLineOf(cat)
                        && (best == NONE || leftAtWorst(cat) < leftAtWorst(best))) {
                    best = cat;
                }
            }
            return best;
        }
    }

    /** A SEASON by a SEED. */
    private static final class Season {
        private static final int FACTOR = 1103515245;
        private static final int ADDEND = 12345;
        private static final int FIFTEEN_BITS = 0x7FFF;

        private final House plan;
        private int seed;

        Season(House plan) {
            this.plan = plan;
        }

        void play(State trial, int firstSeed, int nights, int q) {
            seed = firstSeed;
            for (int i = 0; i < nights; i++) {
                if (plan.schemes > 0) {
                    int scheme = draw(plan.schemes);
                    int room = draw(plan.rooms);
                    trial.hideScheme(scheme, room);
                }
                if (plan.cats > 0 && draw(MOST_Q) < q) {
                    int cat = draw(plan.cats);
                    int room = draw(plan.rooms);
                    trial.callCat(cat, room);
                }
                trial.passNight();
            }
        }

        private int draw(int by) {
            seed = seed * FACTOR + ADDEND;
            return by <= 0 ? 0 : (seed >>> 16 & FIFTEEN_BITS) % by;
        }
    }
}
