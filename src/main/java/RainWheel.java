import java.util.Arrays;
import java.util.NoSuchElementException;

/**
 * A wheel in the rain: a road told as a text, a law of how long deeds last, a plan of who does what,
 * and what follows from them. The document (shared/DOC.md) says what each call answers.
 */
public final class RainWheel {
    public static final int NONE = -1;

    private static final int TAPE_BYTES = 600;
    private static final int LAW_BYTES = 150;
    private static final int PLAN_BYTES = 150;
    private static final int BOOK_BYTES = 40;

    private static final int MOST_CLAUSES = 60;
    private static final int MOST_PEOPLE = 4;
    private static final int MOST_DEEDS = 12;
    private static final int MOST_BOARDS = 6;
    private static final int MOST_NUTS = 8;
    private static final int MOST_CAUSES = 4;
    private static final int MOST_RAINS = 6;
    private static final int MOST_CHANGES = 20;
    private static final int SOONEST_DEEDS = 5;

    private static final int YARDS = 60;
    private static final int LAST_MINUTE = 240;
    private static final int SIGNS = 3;
    private static final int MOST_STRONG = 18;
    private static final int MOST_TRIES = 7;
    private static final int MOST_WAIT = 8;
    private static final int MOST_SLACK = 99;

    // The faults of a text; a call answers them less 10.
    private static final int MISPLACED = 1;
    private static final int NO_SUCH_NUMBER = 2;
    private static final int TOO_MANY = 3;

    // The clauses of a road; where the same kind may stand any number of times, 60 is as good as any.
    private static final int PERSON = 0;
    private static final int DEED = 1;
    private static final int NEEDS = 2;
    private static final int RAIN = 3;
    private static final int YARD = 4;
    private static final int BOARD = 5;
    private static final int LOAD = 6;
    private static final int NUT = 7;
    private static final int STOPS = 8;
    private static final int CAUSE = 9;
    private static final int LOSES = 10;
    private static final int SOFT = 11;
    private static final int[] MOST_OF_KIND = {
        MOST_PEOPLE, MOST_DEEDS, MOST_CLAUSES, MOST_RAINS, MOST_CLAUSES, MOST_BOARDS,
        MOST_CLAUSES, MOST_NUTS, MOST_CLAUSES, MOST_CAUSES, MOST_CLAUSES, MOST_CLAUSES};

    // What a road keeps of each deed, in the order in which deed(deed, what) asks for it.
    private static final int MINUTES = 0;
    private static final int OUT = 1;
    private static final int HANDS = 2;
    private static final int STRENGTH = 3;
    private static final int NEEDED = 4;
    private static final int ALL_NEEDED = 5;
    private static final int CHAIN = 6;
    private static final int DEED_FACTS = 7;

    private final Tape tape = new Tape();
    private final Course course = new Course();
    private final Soonest search = new Soonest();
    private final Ride ride = new Ride();
    private final Crosswise crosswise = new Crosswise();

    // A text is read into the draft, which takes the place of the old one only if there is no fault.
    private Road road = new Road();
    private Road roadDraft = new Road();
    private Law law = new Law();
    private Law lawDraft = new Law();
    private Plan plan = new Plan();
    private Plan planDraft = new Plan();
    private Book book = new Book();
    private Book bookDraft = new Book();

    private final Plan[] images = {new Plan(), new Plan(), new Plan()};
    private int imageCount = 0;
    private int missing = 0;
    private int improper = 0;
    private int untimely = 0;

    public RainWheel() {
    }

    // ---- texts ----

    public int feed(int a, int b, int c, int d, int e) {
        if (!tape.hasRoom()) {
            return NONE;
        }
        tape.put(a);
        tape.put(b);
        tape.put(c);
        tape.put(d);
        tape.put(e);
        return tape.held;
    }

    public int road(int n) throws IllegalArgumentException {
        openText(n, TAPE_BYTES);
        roadDraft.read(tape);
        if (!tape.isSound()) {
            return tape.refusal();
        }
        Road old = road;
        road = roadDraft;
        roadDraft = old;
        law.reset();
        plan.clear();
        book.clear();
        imageCount = 0;
        search.forget();
        return road.deeds();
    }

    public int law(int n) throws IllegalArgumentException {
        openText(n, LAW_BYTES);
        lawDraft.read(tape);
        if (!tape.isSound()) {
            return tape.refusal();
        }
        Law old = law;
        law = lawDraft;
        lawDraft = old;
        search.forget();
        return 1;
    }

    public int plan(int n) throws IllegalArgumentException {
        openText(n, PLAN_BYTES);
        planDraft.read(tape, road);
        if (!tape.isSound()) {
            return tape.refusal();
        }
        Plan old = plan;
        plan = planDraft;
        planDraft = old;
        return plan.lines;
    }

    public int book(int n) throws IllegalArgumentException {
        openText(n, BOOK_BYTES);
        bookDraft.read(tape);
        if (!tape.isSound()) {
            return tape.refusal();
        }
        Book old = book;
        book = bookDraft;
        bookDraft = old;
        return book.lines;
    }

    public int fault() {
        return tape.place;
    }

    // ---- what was told ----

    public int told(int what) throws IllegalArgumentException {
        needRange(what, 0, 8);
        switch (what) {
            case 0:
                return road.people();
            case 1:
                return road.deeds();
            case 2:
                return road.boards();
            case 3:
                return road.nuts();
            case 4:
                return road.causes();
            case 5:
                return plan.lines;
            case 6:
                return book.lines;
            case 7:
                return road.load;
            default:
                return road.stops;
        }
    }

    public int deed(int deed, int what) throws NoSuchElementException, IllegalArgumentException {
        needElement(deed, road.deeds());
        needRange(what, 0, 4);
        return road.deedFacts[what][deed];
    }

    public int strong(int person) throws NoSuchElementException {
        needElement(person, road.people());
        return road.strong[person];
    }

    public int bears(int yard) throws IllegalArgumentException {
        needRange(yard, 0, YARDS - 1);
        return road.bears[yard];
    }

    public boolean rains(int minute) throws IllegalArgumentException {
        needRange(minute, 0, LAST_MINUTE);
        return road.rainMinutes(minute, minute + 1) > 0;
    }

    public int would(int minutes, int hands, int strong, int rain, int minute, int out)
            throws IllegalArgumentException {
        needRange(minutes, 1, 30);
        needRange(hands, 1, 2);
        needRange(strong, 0, MOST_STRONG);
        needRange(rain, 0, 1);
        needRange(minute, 0, LAST_MINUTE);
        needRange(out, 0, 1);
        return law.lasts(minutes, hands, strong, rain, minute, out);
    }

    // ---- the plan ----

    public int line(int line, int what) throws NoSuchElementException, IllegalArgumentException {
        needElement(line, plan.lines);
        needRange(what, 0, 4);
        followPlan();
        switch (what) {
            case 0:
                return plan.deeds[line];
            case 1:
                return plan.people[line];
            case 2:
                return course.begins[line] == NONE ? 1 : 0;
            case 3:
                return course.begins[line];
            default:
                return course.ends[line];
        }
    }

    private void followPlan() {
        course.keepAsTold();
        course.go(road, law, plan);
    }

    public int span() {
        followPlan();
        return course.latest;
    }

    public int wet(int person) throws NoSuchElementException {
        needElement(person, road.people());
        followPlan();
        return course.wetness[person];
    }

    public int idle(int person) throws NoSuchElementException {
        needElement(person, road.people());
        followPlan();
        return course.latest - course.busy[person];
    }

    public int umbrella() {
        followPlan();
        int wettest = NONE;
        int most = 0;
        for (int person = 0; person < MOST_PEOPLE; person++) {
            if (course.wetness[person] > most) {
                most = course.wetness[person];
                wettest = person;
            }
        }
        return wettest;
    }

    public int slack(int deed) throws NoSuchElementException {
        needElement(deed, road.deeds());
        return slackUpTo(deed, MOST_SLACK);
    }

    public int urgent() {
        int bits = 0;
        for (int deed = 0; deed < road.deeds(); deed++) {
            if (slackUpTo(deed, 1) == 0) {
                bits |= 1 << deed;
            }
        }
        return bits;
    }

    private int slackUpTo(int deed, int most) {
        int line = plan.lineOf(deed);
        if (line == NONE) {
            return NONE;
        }
        course.lengthen(line, 0);
        course.go(road, law, plan);
        if (course.begins[line] == NONE) {
            return NONE;
        }
        int told = course.latest;
        for (int more = 1; more <= most; more++) {
            course.lengthen(line, more);
            course.go(road, law, plan);
            if (course.latest > told) {
                return more - 1;
            }
        }
        return most;
    }

    public int ahead(int deed) throws NoSuchElementException {
        needElement(deed, road.deeds());
        return road.deedFacts[ALL_NEEDED][deed];
    }

    public int chain(int deed) throws NoSuchElementException {
        needElement(deed, road.deeds());
        return road.deedFacts[CHAIN][deed];
    }

    public int soonest(int what) throws IllegalArgumentException, IllegalStateException {
        needRange(what, 0, 1);
        needFewDeeds();
        search.find(road, law);
        return what == 0 ? search.span : search.wetness;
    }

    public int first(int k) throws IllegalArgumentException, IllegalStateException {
        needRange(k, 0, road.deeds() - 1);
        needFewDeeds();
        search.find(road, law);
        return search.lineAt(k);
    }

    // ---- the jack ----

    public int sinks(int yard, int boards, int minutes) throws IllegalArgumentException {
        needRange(yard, 0, YARDS - 1);
        needRange(boards, 0, (1 << road.boards()) - 1);
        needRange(minutes, 0, LAST_MINUTE);
        return road.sinking(yard, boards, minutes);
    }

    public int under(int yard, int minutes, int depth) throws IllegalArgumentException {
        needRange(yard, 0, YARDS - 1);
        needRange(minutes, 0, LAST_MINUTE);
        needRange(depth, 0, 9999);
        int best = NONE;
        int fewest = MOST_BOARDS + 1;
        for (int boards = 0; boards < 1 << road.boards(); boards++) {
            int number = Integer.bitCount(boards);
            if (number < fewest && road.sinking(yard, boards, minutes) <= depth) {
                best = boards;
                fewest = number;
            }
        }
        return best;
    }

    public int push(int yard, int c, int minutes, int what) throws IllegalArgumentException {
        needRange(yard, 0, YARDS - 1);
        needRange(c, 0, 99);
        needRange(minutes, 0, LAST_MINUTE);
        needRange(what, 0, 1);
        int best = yard;
        int least = Integer.MAX_VALUE;
        for (int goal = 0; goal < YARDS; goal++) {
            int together = c * Math.abs(goal - yard) + road.sinking(goal, 0, minutes);
            if (together < least) {
                least = together;
                best = goal;
            }
        }
        return what == 0 ? best : least;
    }

    // ---- tries, waits ----

    public long tries(int nut, int n, int s, int part) throws NoSuchElementException, IllegalArgumentException {
        needElement(nut, road.nuts());
        needRange(n, 0, MOST_TRIES);
        needRange(s, 0, MOST_STRONG);
        needRange(part, 0, 1);
        long below = power(16, n);
        return inLeastTerms(below - power(16 - road.looseness(nut, s), n), below, part);
    }

    public int half(int nut, int s) throws NoSuchElementException, IllegalArgumentException {
        needElement(nut, road.nuts());
        needRange(s, 0, MOST_STRONG);
        int stays = 16 - road.looseness(nut, s);
        for (int n = 1; n <= MOST_TRIES; n++) {
            if (2 * power(stays, n) <= power(16, n)) {
                return n;
            }
        }
        return NONE;
    }

    public int easiest(int s) throws IllegalArgumentException {
        needRange(s, 0, MOST_STRONG);
        int best = NONE;
        int most = -1;
        for (int nut = 0; nut < road.nuts(); nut++) {
            if (road.looseness(nut, s) > most) {
                most = road.looseness(nut, s);
                best = nut;
            }
        }
        return best;
    }

    public long waits(int w, int m, int h, int part) throws IllegalArgumentException {
        needRange(w, 0, MOST_WAIT);
        needRange(m, 0, LAST_MINUTE);
        needRange(h, 0, LAST_MINUTE);
        needRange(part, 0, 1);
        return inLeastTerms(waitAbove(w, m, h), power(16, w), part);
    }

    public int await(int m, int h) throws IllegalArgumentException {
        needRange(m, 0, LAST_MINUTE);
        needRange(h, 0, LAST_MINUTE);
        int best = 0;
        long least = Long.MAX_VALUE;
        for (int w = 0; w <= MOST_WAIT; w++) {
            long mean = waitAbove(w, m, h) * power(16, MOST_WAIT - w);
            if (mean < least) {
                least = mean;
                best = w;
            }
        }
        return best;
    }

    /** The mean of a wait, as what stands above 16 to the w: folded from the last minute back to the first. */
    private long waitAbove(int w, int m, int h) {
        long above = w + m;
        long scale = 1;
        for (int minute = w; minute >= 1; minute--) {
            above = road.stops * (minute + h) * scale + (16 - road.stops) * above;
            scale *= 16;
        }
        return above;
    }

    // ---- nuts in a ring, nuts shared, the spare ----

    public int cross(int n, int what) throws IllegalArgumentException {
        needRange(n, 3, 6);
        needRange(what, 0, 1);
        crosswise.find(n);
        return what == 0 ? crosswise.least : crosswise.row;
    }

    public int crooked(int row) throws IllegalArgumentException {
        int lacks = Crosswise.lacksOfRow(row);
        need(lacks != NONE);
        return lacks;
    }

    public int share(int k) throws IllegalArgumentException {
        needRange(k, 0, 12);
        return (16 - k) / 4;
    }

    public int drive(int n) throws IllegalArgumentException {
        needRange(n, 1, 30);
        return ride.fewestMinutes(road, n);
    }

    public int pumps(int n) throws IllegalArgumentException {
        needRange(n, 1, 30);
        return ride.fewestPumps(road, n);
    }

    // ---- causes ----

    public long odds(int cause, int part) throws NoSuchElementException, IllegalArgumentException {
        needElement(cause, road.causes());
        needRange(part, 0, 1);
        long all = 0;
        for (int other = 0; other < road.causes(); other++) {
            all += book.weight(road, other);
        }
        if (all == 0) {
            return part;
        }
        return inLeastTerms(book.weight(road, cause), all, part);
    }

    public int likeliest() {
        int best = NONE;
        int most = 0;
        for (int cause = 0; cause < road.causes(); cause++) {
            int weight = book.weight(road, cause);
            if (weight > most) {
                most = weight;
                best = cause;
            }
        }
        return best;
    }

    public int ask() {
        int best = NONE;
        int most = -1;
        for (int sign = 0; sign < SIGNS; sign++) {
            if (!book.tells(sign)) {
                int known = book.heaviest(road, sign, 0) + book.heaviest(road, sign, 1);
                if (known > most) {
                    most = known;
                    best = sign;
                }
            }
        }
        return best;
    }

    // ---- evenings ----

    public int evening(int seed, int what) throws IllegalArgumentException {
        needRange(what, 0, 2);
        course.leaveToChance(road.loses, seed);
        course.go(road, law, plan);
        switch (what) {
            case 0:
                return course.latest;
            case 1:
                return course.wetOfAll();
            default:
                return course.again;
        }
    }

    public int evenings(int seed, int many, int what) throws IllegalArgumentException {
        needRange(many, 1, 40);
        needRange(what, 0, 3);
        int least = Integer.MAX_VALUE;
        int greatest = 0;
        int together = 0;
        int unspoilt = 0;
        for (int k = 0; k < many; k++) {
            course.leaveToChance(road.loses, seed + k);
            course.go(road, law, plan);
            least = Math.min(least, course.latest);
            greatest = Math.max(greatest, course.latest);
            together += course.latest;
            unspoilt += course.again == 0 ? 1 : 0;
        }
        switch (what) {
            case 0:
                return least;
            case 1:
                return greatest;
            case 2:
                return together;
            default:
                return unspoilt;
        }
    }

    // ---- changes, images ----

    public int swap(int line, int other) throws NoSuchElementException {
        needElement(line, plan.lines);
        needElement(other, plan.lines);
        if (line == other) {
            return 0;
        }
        return plan.swapLines(line, other) ? 1 : -1;
    }

    public int hand(int line, int people) throws NoSuchElementException, IllegalArgumentException {
        needElement(line, plan.lines);
        needRange(people, 1, (1 << road.people()) - 1);
        needRange(Integer.bitCount(people), 1, 2);
        return plan.giveTo(line, people) ? 1 : -1;
    }

    public int drop(int line) throws NoSuchElementException {
        needElement(line, plan.lines);
        return plan.leaveOut(line) ? plan.lines : -1;
    }

    public int undo() {
        return plan.takeBack() ? plan.changes : -1;
    }

    public int image() {
        if (imageCount >= images.length) {
            return -1;
        }
        images[imageCount].copyFrom(plan);
        imageCount++;
        return imageCount;
    }

    public int restore() {
        if (imageCount <= 0) {
            return -1;
        }
        imageCount--;
        plan.copyFrom(images[imageCount]);
        return imageCount;
    }

    // ---- counts ----

    public int status(int what) {
        switch (what) {
            case 0:
                return missing;
            case 1:
                return improper;
            case 2:
                return untimely;
            default:
                return NONE;
        }
    }

    public int count(int what) {
        switch (what) {
            case 0:
                return imageCount;
            case 1:
                return tape.held;
            case 2:
                return plan.changes;
            default:
                return NONE;
        }
    }

    // ---- refusals ----

    private void openText(int n, int most) {
        needRange(n, 0, Math.min(most, tape.held));
        tape.open(n);
    }

    private void needElement(int number, int many) {
        if (number < 0 || number >= many) {
            missing++;
            throw new NoSuchElementException("there is no such element");
        }
    }

    private void needRange(int value, int low, int high) {
        need(value >= low && value <= high);
    }

    private void need(boolean proper) {
        if (!proper) {
            improper++;
            throw new IllegalArgumentException("there can be no such argument");
        }
    }

    private void needFewDeeds() {
        if (road.deeds() > SOONEST_DEEDS) {
            untimely++;
            throw new IllegalStateException("there are more than 5 deeds");
        }
    }

    // ---- whole numbers ----

    private static long power(int base, int exponent) {
        long product = 1;
        for (int k = 0; k < exponent; k++) {
            product *= base;
        }
        return product;
    }

    private static long inLeastTerms(long above, long below, int part) {
        long divisor = commonDivisor(above, below);
        long whole = part == 0 ? above : below;
        return divisor == 0 ? whole : whole / divisor;
    }

    /** Euclid's way; two longs need fewer than 100 steps. */
    private static long commonDivisor(long one, long other) {
        long a = one;
        long b = other;
        for (int k = 0; k < 100 && b != 0; k++) {
            long left = a % b;
            a = b;
            b = left;
        }
        return a;
    }

    /** The tape, and the reading of a text from its front: the first fault stays, whatever is read behind it. */
    private static final class Tape {
        // No number in any text may be greater than 999, so more digits than that need not be told apart.
        private static final int BEYOND_ALL = 1000;

        private final byte[] bytes = new byte[TAPE_BYTES];
        private int end = 0;
        private int at = 0;
        private int start = 0;
        private int fault = 0;
        int held = 0;
        int place = NONE;

        boolean hasRoom() {
            return held + 20 <= TAPE_BYTES;
        }

        void put(int number) {
            for (int shift = 24; shift >= 0; shift -= 8) {
                if (held < TAPE_BYTES) {
                    bytes[held] = (byte) (number >> shift);
                    held++;
                }
            }
        }

        void open(int length) {
            end = length;
            held = 0;
            at = 0;
            start = 0;
            fault = 0;
            place = NONE;
        }

        boolean isSound() {
            return fault == 0;
        }

        int refusal() {
            return fault - 10;
        }

        private void fail(int kind, int where) {
            if (fault == 0) {
                fault = kind;
                place = where;
            }
        }

        /** The next byte that is no blank; NONE at the end. */
        int next() {
            while (at < end && bytes[at] == ' ') {
                at++;
            }
            return at < end ? bytes[at] & 255 : NONE;
        }

        boolean nextIsDigit() {
            return isDigit(next());
        }

        boolean hasMore() {
            return fault == 0 && next() != NONE;
        }

        int readNumber(int low, int high) {
            next();
            start = at;
            int value = 0;
            while (at < end && isDigit(bytes[at])) {
                if (value < BEYOND_ALL) {
                    value = value * 10 + bytes[at] - '0';
                }
                at++;
            }
            if (at == start) {
                fail(MISPLACED, start);
            } else if (value < low || value > high) {
                fail(NO_SUCH_NUMBER, start);
            }
            return value;
        }

        void readWord() {
            next();
            start = at;
            while (at < end && bytes[at] >= 'a' && bytes[at] <= 'z') {
                at++;
            }
        }

        boolean wordIs(String word) {
            if (word.length() != at - start) {
                return false;
            }
            for (int k = 0; k < word.length(); k++) {
                if (bytes[start + k] != word.charAt(k)) {
                    return false;
                }
            }
            return true;
        }

        boolean take(char sign) {
            if (next() != sign) {
                return false;
            }
            at++;
            return true;
        }

        void expect(char sign) {
            if (!take(sign)) {
                fail(MISPLACED, at);
            }
        }

        void failNext(int kind) {
            next();
            fail(kind, at);
        }

        /** A fault at the first byte of the number or word that was read last. */
        void failLatest(int kind) {
            fail(kind, start);
        }

        private static boolean isDigit(int sign) {
            return sign >= '0' && sign <= '9';
        }
    }

    /** What a road tells. */
    private static final class Road {
        private final int[] many = new int[MOST_OF_KIND.length];
        // How much it rains ahead of each minute, so that a stretch of minutes is one difference.
        private final int[] rainAhead = new int[LAST_MINUTE + 2];
        private final int[] broad = new int[MOST_BOARDS];
        private final int[] rust = new int[MOST_NUTS];
        final int[] strong = new int[MOST_PEOPLE];
        final int[] bears = new int[YARDS];
        final int[][] deedFacts = new int[DEED_FACTS][MOST_DEEDS];
        final int[][] causeFacts = new int[SIGNS + 1][MOST_CAUSES];
        int load;
        int stops;
        int loses;
        int soft;
        int every;

        Road() {
            clear();
        }

        private void clear() {
            Arrays.fill(many, 0);
            Arrays.fill(rainAhead, 0);
            Arrays.fill(bears, 3);
            Arrays.fill(deedFacts[NEEDED], 0);
            load = 20;
            stops = 2;
            loses = 0;
            soft = 30;
            every = 5;
        }

        int people() {
            return many[PERSON];
        }

        int deeds() {
            return many[DEED];
        }

        int boards() {
            return many[BOARD];
        }

        int nuts() {
            return many[NUT];
        }

        int causes() {
            return many[CAUSE];
        }

        void read(Tape tape) {
            clear();
            for (int clause = 0; clause <= MOST_CLAUSES && tape.hasMore(); clause++) {
                readClause(tape, clause);
            }
            addRains();
            followNeeds();
        }

        private void readClause(Tape tape, int clause) {
            tape.readWord();
            int kind = kindOfWord(tape);
            if (kind == NONE) {
                tape.failLatest(MISPLACED);
                return;
            }
            if (clause >= MOST_CLAUSES || many[kind] >= MOST_OF_KIND[kind]) {
                tape.failLatest(TOO_MANY);
                return;
            }
            readNumbers(tape, kind, many[kind]);
            tape.expect(';');
            many[kind]++;
        }

        private static int kindOfWord(Tape tape) {
            if (tape.wordIs("person")) {
                return PERSON;
            } else if (tape.wordIs("deed")) {
                return DEED;
            } else if (tape.wordIs("needs")) {
                return NEEDS;
            } else if (tape.wordIs("rain")) {
                return RAIN;
            } else if (tape.wordIs("yard")) {
                return YARD;
            } else if (tape.wordIs("board")) {
                return BOARD;
            } else if (tape.wordIs("load")) {
                return LOAD;
            } else if (tape.wordIs("nut")) {
                return NUT;
            } else if (tape.wordIs("stops")) {
                return STOPS;
            } else if (tape.wordIs("cause")) {
                return CAUSE;
            } else if (tape.wordIs("loses")) {
                return LOSES;
            } else if (tape.wordIs("soft")) {
                return SOFT;
            }
            return NONE;
        }

        /** The numbers behind a word; the index is below the most of its kind. */
        private void readNumbers(Tape tape, int kind, int index) {
            switch (kind) {
                case PERSON:
                    strong[index] = tape.readNumber(1, 9);
                    break;
                case DEED:
                    deedFacts[MINUTES][index] = tape.readNumber(1, 30);
                    deedFacts[OUT][index] = tape.readNumber(0, 1);
                    deedFacts[HANDS][index] = tape.readNumber(1, 2);
                    deedFacts[STRENGTH][index] = tape.readNumber(0, MOST_STRONG);
                    break;
                case NEEDS:
                    readNeeds(tape);
                    break;
                case RAIN:
                    readRain(tape);
                    break;
                case YARD:
                    readYard(tape);
                    break;
                case BOARD:
                    broad[index] = tape.readNumber(1, 9);
                    break;
                case LOAD:
                    load = tape.readNumber(1, 99);
                    break;
                case NUT:
                    rust[index] = tape.readNumber(0, 15);
                    break;
                case STOPS:
                    stops = tape.readNumber(0, 16);
                    break;
                case CAUSE:
                    readCause(tape, index);
                    break;
                case LOSES:
                    loses = tape.readNumber(0, 16);
                    break;
                default:
                    soft = tape.readNumber(0, 99);
                    every = tape.readNumber(1, 9);
                    break;
            }
        }

        private void readNeeds(Tape tape) {
            int deed = tape.readNumber(0, deeds() - 1);
            int needed = tape.readNumber(0, deed - 1);
            if (tape.isSound()) {
                deedFacts[NEEDED][deed] |= 1 << needed;
            }
        }

        /** Marks the minutes; addRains counts them up when all are marked. */
        private void readRain(Tape tape) {
            int from = tape.readNumber(0, LAST_MINUTE);
            int to = tape.readNumber(from, LAST_MINUTE);
            if (tape.isSound()) {
                for (int minute = from; minute <= to; minute++) {
                    rainAhead[minute + 1] = 1;
                }
            }
        }

        private void readYard(Tape tape) {
            int yard = tape.readNumber(0, YARDS - 1);
            int holds = tape.readNumber(0, 20);
            if (tape.isSound()) {
                bears[yard] = holds;
            }
        }

        private void readCause(Tape tape, int cause) {
            causeFacts[0][cause] = tape.readNumber(1, 16);
            for (int sign = 0; sign < SIGNS; sign++) {
                causeFacts[1 + sign][cause] = tape.readNumber(0, 16);
            }
        }

        private void addRains() {
            for (int minute = 1; minute < rainAhead.length; minute++) {
                rainAhead[minute] += rainAhead[minute - 1];
            }
        }

        /** A deed needs only deeds of lower numbers, so one pass upward is enough. */
        private void followNeeds() {
            for (int deed = 0; deed < deeds(); deed++) {
                int all = deedFacts[NEEDED][deed];
                int longest = 0;
                for (int needed = 0; needed < deed; needed++) {
                    if ((deedFacts[NEEDED][deed] >> needed & 1) == 1) {
                        all |= deedFacts[ALL_NEEDED][needed];
                        longest = Math.max(longest, deedFacts[CHAIN][needed]);
                    }
                }
                deedFacts[ALL_NEEDED][deed] = all;
                deedFacts[CHAIN][deed] = longest + deedFacts[MINUTES][deed];
            }
        }

        /** How many minutes it rains from one minute to ahead of another. */
        int rainMinutes(int from, int to) {
            if (from < 0 || to < from) {
                return 0;
            }
            int dry = LAST_MINUTE + 1;
            return rainAhead[Math.min(to, dry)] - rainAhead[Math.min(from, dry)];
        }

        int wetMinutes(int deed, int from, int to) {
            return deedFacts[OUT][deed] == 0 ? 0 : rainMinutes(from, to);
        }

        int strengthOf(int bits) {
            int together = 0;
            for (int person = 0; person < people(); person++) {
                if ((bits >> person & 1) == 1) {
                    together += strong[person];
                }
            }
            return together;
        }

        private boolean canDo(int bits, int deed) {
            return Integer.bitCount(bits) == deedFacts[HANDS][deed]
                && strengthOf(bits) >= deedFacts[STRENGTH][deed];
        }

        /** Whether for each deed there are people who can do it: else every plan of all deeds is blocked. */
        boolean canAllBeDone() {
            for (int deed = 0; deed < deeds(); deed++) {
                boolean found = false;
                for (int bits = 1; bits < 1 << people() && !found; bits++) {
                    found = canDo(bits, deed);
                }
                if (!found) {
                    return false;
                }
            }
            return true;
        }

        /** Whether two people may always change places, by what they can do and, if that counts, by their strength. */
        boolean areAlike(int person, int other, boolean strengthCounts) {
            if (strengthCounts || strong[person] == strong[other]) {
                return strong[person] == strong[other];
            }
            int both = 1 << person | 1 << other;
            for (int deed = 0; deed < deeds(); deed++) {
                for (int bits = 1; bits < 1 << people(); bits++) {
                    if (Integer.bitCount(bits & both) == 1 && canDo(bits, deed) != canDo(bits ^ both, deed)) {
                        return false;
                    }
                }
            }
            return true;
        }

        /** The minute in which people can begin a deed, by the ends of deeds and of people's lines; NONE: it is blocked. */
        int earliest(int deed, int bits, int[] deedEnds, int[] peopleEnds) {
            if (!canDo(bits, deed)) {
                return NONE;
            }
            int begin = 0;
            for (int needed = 0; needed < deed && needed < deedEnds.length; needed++) {
                if ((deedFacts[NEEDED][deed] >> needed & 1) == 1) {
                    if (deedEnds[needed] == NONE) {
                        return NONE;
                    }
                    begin = Math.max(begin, deedEnds[needed]);
                }
            }
            for (int person = 0; person < people() && person < peopleEnds.length; person++) {
                if ((bits >> person & 1) == 1) {
                    begin = Math.max(begin, peopleEnds[person]);
                }
            }
            return begin;
        }

        int sinking(int yard, int bits, int minutes) {
            int breadth = 1;
            for (int board = 0; board < boards(); board++) {
                if ((bits >> board & 1) == 1) {
                    breadth += broad[board];
                }
            }
            return minutes * Math.max(0, load / Math.max(1, breadth) - bears[yard]);
        }

        /** By how many of 16 a nut comes loose. */
        int looseness(int nut, int strength) {
            return Math.max(0, Math.min(16, 2 * strength - rust[nut]));
        }
    }

    /** How long a deed lasts: the law's text as steps in the order in which a stack takes them. */
    private static final class Law {
        private static final int MOST_OPEN = 6;

        // A step below FACTS is a number; from FACTS on it is one of the six facts, from ADD on it joins two values.
        private static final int FACTS = 1000;
        private static final int FACT_COUNT = 6;
        private static final int STRONG = 1002;
        private static final int ADD = 1006;
        private static final int SUBTRACT = 1007;
        private static final int MULTIPLY = 1008;
        private static final int DIVIDE = 1009;
        private static final int LEAST = 1010;
        private static final int MOST = 1011;

        private final int[] steps = new int[LAW_BYTES];
        private final int[] stack = new int[LAW_BYTES];
        private final int[] facts = new int[FACT_COUNT];
        private int length;

        Law() {
            reset();
        }

        /** Without a text: as many minutes as the deed is told. */
        void reset() {
            steps[0] = FACTS;
            length = 1;
        }

        void read(Tape tape) {
            length = 0;
            readSum(tape, 0);
            if (tape.hasMore()) {
                tape.failNext(MISPLACED);
            }
        }

        private void add(int step) {
            if (length < steps.length) {
                steps[length] = step;
                length++;
            }
        }

        private void readSum(Tape tape, int open) {
            readProduct(tape, open);
            for (int k = 0; k < LAW_BYTES && tape.isSound(); k++) {
                int step = tape.take('+') ? ADD : tape.take('-') ? SUBTRACT : NONE;
                if (step == NONE) {
                    return;
                }
                readProduct(tape, open);
                add(step);
            }
        }

        private void readProduct(Tape tape, int open) {
            readUnit(tape, open);
            for (int k = 0; k < LAW_BYTES && tape.isSound(); k++) {
                int step = tape.take('*') ? MULTIPLY : tape.take('/') ? DIVIDE : NONE;
                if (step == NONE) {
                    return;
                }
                readUnit(tape, open);
                add(step);
            }
        }

        private void readUnit(Tape tape, int open) {
            if (tape.nextIsDigit()) {
                add(tape.readNumber(0, 999));
            } else if (tape.next() == '(') {
                readBracket(tape, open);
            } else {
                readNamed(tape, open);
            }
        }

        private void readBracket(Tape tape, int open) {
            if (open >= MOST_OPEN) {
                tape.failNext(TOO_MANY);
                return;
            }
            tape.take('(');
            readSum(tape, open + 1);
            tape.expect(')');
        }

        private void readNamed(Tape tape, int open) {
            tape.readWord();
            if (tape.wordIs("least")) {
                readPair(tape, open, LEAST);
            } else if (tape.wordIs("most")) {
                readPair(tape, open, MOST);
            } else {
                int fact = factOfWord(tape);
                if (fact == NONE) {
                    tape.failLatest(MISPLACED);
                } else {
                    add(FACTS + fact);
                }
            }
        }

        private void readPair(Tape tape, int open, int step) {
            if (open >= MOST_OPEN) {
                tape.failLatest(TOO_MANY);
                return;
            }
            tape.expect('[');
            if (tape.isSound()) {
                readSum(tape, open + 1);
            }
            tape.expect(',');
            if (tape.isSound()) {
                readSum(tape, open + 1);
            }
            tape.expect(']');
            add(step);
        }

        /** In the order of the facts that lasts takes. */
        private static int factOfWord(Tape tape) {
            if (tape.wordIs("minutes")) {
                return 0;
            } else if (tape.wordIs("hands")) {
                return 1;
            } else if (tape.wordIs("strong")) {
                return 2;
            } else if (tape.wordIs("rain")) {
                return 3;
            } else if (tape.wordIs("minute")) {
                return 4;
            } else if (tape.wordIs("out")) {
                return 5;
            }
            return NONE;
        }

        int lasts(int minutes, int hands, int strong, int rain, int minute, int out) {
            facts[0] = minutes;
            facts[1] = hands;
            facts[2] = strong;
            facts[3] = rain;
            facts[4] = minute;
            facts[5] = out;
            return Math.max(1, Math.min(99, value()));
        }

        int lastsFor(Road road, int deed, int people, int begin) {
            int rain = road.wetMinutes(deed, begin, begin + 1);
            return lasts(road.deedFacts[MINUTES][deed], road.deedFacts[HANDS][deed],
                road.strengthOf(people), rain, begin, road.deedFacts[OUT][deed]);
        }

        boolean asksForStrength() {
            for (int k = 0; k < length; k++) {
                if (steps[k] == STRONG) {
                    return true;
                }
            }
            return false;
        }

        private int value() {
            int top = 0;
            for (int k = 0; k < length; k++) {
                int step = steps[k];
                if (step >= ADD) {
                    if (top >= 2) {
                        top--;
                        stack[top - 1] = join(step, stack[top - 1], stack[top]);
                    }
                } else if (top < stack.length) {
                    stack[top] = step < FACTS ? step : facts[step - FACTS];
                    top++;
                }
            }
            return stack[0];
        }

        private static int join(int step, int left, int right) {
            switch (step) {
                case ADD:
                    return left + right;
                case SUBTRACT:
                    return left - right;
                case MULTIPLY:
                    return left * right;
                case DIVIDE:
                    return right == 0 ? 0 : left / right;
                case LEAST:
                    return left < right ? left : right;
                default:
                    return left > right ? left : right;
            }
        }
    }

    /** The lines of a plan, and the changes that can be undone. */
    private static final class Plan {
        private static final int SWAPPED = 0;
        private static final int HANDED = 1;
        private static final int DROPPED = 2;

        private final int[] changeKinds = new int[MOST_CHANGES];
        private final int[] changeLines = new int[MOST_CHANGES];
        // The other line of a swap, the people before a hand, 16 times the deed and its people of a drop.
        private final int[] changeKeeps = new int[MOST_CHANGES];
        final int[] deeds = new int[MOST_DEEDS];
        final int[] people = new int[MOST_DEEDS];
        int lines = 0;
        int changes = 0;

        void clear() {
            lines = 0;
            changes = 0;
        }

        void copyFrom(Plan other) {
            lines = other.lines;
            changes = other.changes;
            System.arraycopy(other.deeds, 0, deeds, 0, deeds.length);
            System.arraycopy(other.people, 0, people, 0, people.length);
            System.arraycopy(other.changeKinds, 0, changeKinds, 0, changeKinds.length);
            System.arraycopy(other.changeLines, 0, changeLines, 0, changeLines.length);
            System.arraycopy(other.changeKeeps, 0, changeKeeps, 0, changeKeeps.length);
        }

        /** A 13th line can't be: its deed would stand there twice, or not be told. */
        void read(Tape tape, Road road) {
            clear();
            for (int k = 0; k <= MOST_DEEDS && tape.hasMore(); k++) {
                readLine(tape, road);
            }
        }

        private void readLine(Tape tape, Road road) {
            int deed = tape.readNumber(0, road.deeds() - 1);
            if (tape.isSound() && lineOf(deed) != NONE) {
                tape.failLatest(NO_SUCH_NUMBER);
            }
            int bits = readPerson(tape, road, 0);
            if (tape.isSound() && tape.nextIsDigit()) {
                bits |= readPerson(tape, road, bits);
            }
            tape.expect(';');
            if (tape.isSound() && lines < deeds.length) {
                deeds[lines] = deed;
                people[lines] = bits;
                lines++;
            }
        }

        /** The bit of a person who is not among those told already. */
        private static int readPerson(Tape tape, Road road, int told) {
            int person = tape.readNumber(0, road.people() - 1);
            if ((told >> person & 1) == 1) {
                tape.failLatest(NO_SUCH_NUMBER);
            }
            return 1 << person;
        }

        int lineOf(int deed) {
            for (int line = 0; line < lines; line++) {
                if (deeds[line] == deed) {
                    return line;
                }
            }
            return NONE;
        }

        private boolean note(int kind, int line, int keeps) {
            if (changes >= MOST_CHANGES) {
                return false;
            }
            changeKinds[changes] = kind;
            changeLines[changes] = line;
            changeKeeps[changes] = keeps;
            changes++;
            return true;
        }

        boolean swapLines(int line, int other) {
            if (!note(SWAPPED, line, other)) {
                return false;
            }
            exchange(line, other);
            return true;
        }

        boolean giveTo(int line, int bits) {
            if (!note(HANDED, line, people[line])) {
                return false;
            }
            people[line] = bits;
            return true;
        }

        boolean leaveOut(int line) {
            if (!note(DROPPED, line, deeds[line] * 16 + people[line])) {
                return false;
            }
            lines--;
            for (int k = line; k < lines; k++) {
                exchange(k, k + 1);
            }
            return true;
        }

        boolean takeBack() {
            if (changes <= 0) {
                return false;
            }
            changes--;
            int line = changeLines[changes];
            int keeps = changeKeeps[changes];
            switch (changeKinds[changes]) {
                case SWAPPED:
                    exchange(line, keeps);
                    break;
                case HANDED:
                    people[line] = keeps;
                    break;
                default:
                    putIn(line, keeps >> 4, keeps & 15);
                    break;
            }
            return true;
        }

        private void putIn(int line, int deed, int bits) {
            if (lines >= deeds.length) {
                return;
            }
            deeds[lines] = deed;
            people[lines] = bits;
            for (int k = lines; k > line; k--) {
                exchange(k, k - 1);
            }
            lines++;
        }

        private void exchange(int line, int other) {
            int deed = deeds[line];
            deeds[line] = deeds[other];
            deeds[other] = deed;
            int bits = people[line];
            people[line] = people[other];
            people[other] = bits;
        }
    }

    /** How a plan goes: as told, with one line that lasts longer, or with what chance spoils. */
    private static final class Course {
        private final int[] deedEnds = new int[MOST_DEEDS];
        private final int[] peopleEnds = new int[MOST_PEOPLE];
        private int longerLine = NONE;
        private int longerBy = 0;
        private int spoils = 0;
        private int seed = 0;
        final int[] begins = new int[MOST_DEEDS];
        final int[] ends = new int[MOST_DEEDS];
        final int[] busy = new int[MOST_PEOPLE];
        final int[] wetness = new int[MOST_PEOPLE];
        int latest = 0;
        int again = 0;

        void keepAsTold() {
            longerLine = NONE;
            longerBy = 0;
            spoils = 0;
        }

        void lengthen(int line, int more) {
            longerLine = line;
            longerBy = more;
            spoils = 0;
        }

        void leaveToChance(int of16, int firstSeed) {
            longerLine = NONE;
            longerBy = 0;
            spoils = of16;
            seed = firstSeed;
        }

        int wetOfAll() {
            int all = 0;
            for (int person = 0; person < MOST_PEOPLE; person++) {
                all += wetness[person];
            }
            return all;
        }

        void go(Road road, Law law, Plan plan) {
            Arrays.fill(deedEnds, NONE);
            Arrays.fill(peopleEnds, 0);
            Arrays.fill(busy, 0);
            Arrays.fill(wetness, 0);
            latest = 0;
            again = 0;
            for (int line = 0; line < plan.lines; line++) {
                int deed = plan.deeds[line];
                int bits = plan.people[line];
                begins[line] = road.earliest(deed, bits, deedEnds, peopleEnds);
                ends[line] = NONE;
                if (begins[line] != NONE) {
                    ends[line] = begins[line] + duration(road, law, plan, line);
                    deedEnds[deed] = ends[line];
                    latest = Math.max(latest, ends[line]);
                    keepBusy(bits, begins[line], ends[line], road.wetMinutes(deed, begins[line], ends[line]));
                }
            }
        }

        private int duration(Road road, Law law, Plan plan, int line) {
            int once = law.lastsFor(road, plan.deeds[line], plan.people[line], begins[line]);
            if (draw() % 16 < spoils) {
                again++;
                return 2 * once;
            }
            return line == longerLine ? once + longerBy : once;
        }

        private int draw() {
            seed = seed * 1103515245 + 12345;
            return seed >> 16 & 32767;
        }

        private void keepBusy(int bits, int begin, int end, int wetMinutes) {
            for (int person = 0; person < MOST_PEOPLE; person++) {
                if ((bits >> person & 1) == 1) {
                    peopleEnds[person] = end;
                    busy[person] += end - begin;
                    wetness[person] += wetMinutes;
                }
            }
        }
    }

    /** The soonest plan of a few deeds: all plans in their order, but for those that can't be better than the best so far. */
    private static final class Soonest {
        private final int[] deeds = new int[SOONEST_DEEDS];
        private final int[] people = new int[SOONEST_DEEDS];
        private final int[] bestLines = new int[SOONEST_DEEDS];
        private final int[] deedEnds = new int[MOST_DEEDS];
        // A row for each depth: what holds ahead of the line at that depth.
        private final int[][] peopleEnds = new int[SOONEST_DEEDS + 1][MOST_PEOPLE];
        private final int[] spans = new int[SOONEST_DEEDS + 1];
        private final int[] wets = new int[SOONEST_DEEDS + 1];
        // For each person, as bits, the people of lower numbers who may always change places with that one.
        private final int[] twins = new int[MOST_PEOPLE];
        private boolean known = false;
        int span = NONE;
        int wetness = NONE;

        void forget() {
            known = false;
        }

        int lineAt(int k) {
            return span == NONE ? NONE : bestLines[k];
        }

        /** The answer hangs on the road and the law alone, so it is kept until one of them changes. */
        void find(Road road, Law law) {
            if (known || road.deeds() > SOONEST_DEEDS) {
                return;
            }
            span = NONE;
            wetness = NONE;
            Arrays.fill(deedEnds, NONE);
            findTwins(road, law.asksForStrength());
            if (road.canAllBeDone()) {
                extend(road, law, 0);
            }
            known = true;
        }

        private void findTwins(Road road, boolean strengthCounts) {
            for (int person = 0; person < road.people(); person++) {
                twins[person] = 0;
                for (int other = 0; other < person; other++) {
                    if (road.areAlike(person, other, strengthCounts)) {
                        twins[person] |= 1 << other;
                    }
                }
            }
        }

        private void extend(Road road, Law law, int depth) {
            if (depth >= road.deeds()) {
                keepBest(depth);
                return;
            }
            for (int deed = 0; deed < road.deeds(); deed++) {
                if (deedEnds[deed] == NONE) {
                    for (int bits = 1; bits < 1 << road.people(); bits++) {
                        if (place(road, law, depth, deed, bits)) {
                            extend(road, law, depth + 1);
                            deedEnds[deed] = NONE;
                        }
                    }
                }
            }
        }

        /** Puts a line at a depth, unless it is blocked or can't lead to a plan that is better than the best. */
        private boolean place(Road road, Law law, int depth, int deed, int bits) {
            if (couldStandAhead(depth, deed, bits) || couldBeTwin(road, depth, bits)) {
                return false;
            }
            int begin = road.earliest(deed, bits, deedEnds, peopleEnds[depth]);
            if (begin == NONE) {
                return false;
            }
            int end = begin + law.lastsFor(road, deed, bits, begin);
            spans[depth + 1] = Math.max(spans[depth], end);
            wets[depth + 1] = wets[depth] + Integer.bitCount(bits) * road.wetMinutes(deed, begin, end);
            if (!isBetter(spans[depth + 1], wets[depth + 1])) {
                return false;
            }
            deeds[depth] = deed;
            people[depth] = bits;
            deedEnds[deed] = end;
            for (int person = 0; person < MOST_PEOPLE; person++) {
                peopleEnds[depth + 1][person] = (bits >> person & 1) == 1 ? end : peopleEnds[depth][person];
            }
            return true;
        }

        /** Whether a person of the line could be a twin who is as free: that plan is as good, and an earlier one. */
        private boolean couldBeTwin(Road road, int depth, int bits) {
            for (int person = 1; person < road.people(); person++) {
                if ((bits >> person & 1) == 1) {
                    for (int other = 0; other < person; other++) {
                        if ((twins[person] & ~bits & 1 << other) != 0
                                && peopleEnds[depth][other] == peopleEnds[depth][person]) {
                            return true;
                        }
                    }
                }
            }
            return false;
        }

        /**
         * Whether the line could change places with the one ahead of it: that plan is as good, and an earlier one.
         * A deed of a lower number never needs the other, so only the people can keep them in their order.
         */
        private boolean couldStandAhead(int depth, int deed, int bits) {
            return depth > 0 && deed < deeds[depth - 1] && (bits & people[depth - 1]) == 0;
        }

        private boolean isBetter(int otherSpan, int otherWet) {
            return span == NONE || otherSpan < span || otherSpan == span && otherWet < wetness;
        }

        private void keepBest(int depth) {
            span = spans[depth];
            wetness = wets[depth];
            for (int k = 0; k < depth; k++) {
                bestLines[k] = 100 * deeds[k] + people[k];
            }
        }
    }

    /** Which signs were seen, and what the causes weigh by them. */
    private static final class Book {
        private final int[] seen = {NONE, NONE, NONE};
        int lines = 0;

        void clear() {
            Arrays.fill(seen, NONE);
            lines = 0;
        }

        /** A fourth line can't be: its sign would stand there twice, or be none. */
        void read(Tape tape) {
            clear();
            for (int k = 0; k <= SIGNS && tape.hasMore(); k++) {
                readLine(tape);
            }
        }

        private void readLine(Tape tape) {
            int sign = tape.readNumber(0, SIGNS - 1);
            if (tape.isSound() && tells(sign)) {
                tape.failLatest(NO_SUCH_NUMBER);
            }
            int value = tape.readNumber(0, 1);
            tape.expect(';');
            if (tape.isSound()) {
                seen[sign] = value;
                lines++;
            }
        }

        boolean tells(int sign) {
            return seen[sign] != NONE;
        }

        /** All causes are weighed by the same signs, so the sixteenths cancel. */
        int weight(Road road, int cause) {
            int weight = road.causeFacts[0][cause];
            for (int sign = 0; sign < SIGNS; sign++) {
                if (tells(sign)) {
                    weight *= likelihood(road, cause, sign, seen[sign]);
                }
            }
            return weight;
        }

        int heaviest(Road road, int sign, int value) {
            int most = 0;
            for (int cause = 0; cause < road.causes(); cause++) {
                most = Math.max(most, weight(road, cause) * likelihood(road, cause, sign, value));
            }
            return most;
        }

        private static int likelihood(Road road, int cause, int sign, int value) {
            int of16 = road.causeFacts[1 + sign][cause];
            return value == 1 ? of16 : 16 - of16;
        }
    }

    /** The drive on a soft spare, reckoned from the last mile back to the first. */
    private static final class Ride {
        private static final int FULL = 99;
        private static final int LEAST_PRESSURE = 5;
        // A cost is SCALE times the minutes, and the pumps: so the least cost has the fewest pumps of the fewest minutes.
        private static final int SCALE = 1000;
        private static final int PUMP_COST = 4 * SCALE + 1;

        private final int[] here = new int[FULL + 1];
        private final int[] behind = new int[FULL + 1];

        int fewestMinutes(Road road, int miles) {
            return leastCost(road, miles) / SCALE;
        }

        int fewestPumps(Road road, int miles) {
            return leastCost(road, miles) % SCALE;
        }

        private int leastCost(Road road, int miles) {
            Arrays.fill(here, 0);
            for (int mile = miles; mile >= 1; mile--) {
                System.arraycopy(here, 0, behind, 0, here.length);
                int lost = road.every > 0 && mile % road.every == 0 ? 1 : 0;
                // From full downward, for pumping leads upward within the same mile.
                for (int pressure = FULL; pressure >= 0; pressure--) {
                    here[pressure] = leastCostAt(pressure, lost);
                }
            }
            return here[road.soft];
        }

        private int leastCostAt(int pressure, int lost) {
            int least = Integer.MAX_VALUE;
            if (pressure < FULL) {
                least = PUMP_COST + here[Math.min(FULL, pressure + 10)];
            }
            if (pressure >= LEAST_PRESSURE) {
                least = Math.min(least, SCALE * mileMinutes(pressure) + behind[pressure - lost]);
            }
            return least;
        }

        private static int mileMinutes(int pressure) {
            return pressure >= 30 ? 2 : 2 + (39 - pressure) / 10;
        }
    }

    /** Nuts in a ring, tightened as far from one another as can be. */
    private static final class Crosswise {
        int least;
        int row;

        void find(int n) {
            least = Integer.MAX_VALUE;
            row = 0;
            for (int nut = 1; nut <= n; nut++) {
                tighten(n, 1 << nut, nut, 0);
            }
        }

        /** Goes on with a row by each nut that is left; each level takes one nut, so there are n of them. */
        private void tighten(int n, int used, int done, int lacks) {
            if (lacks >= least) {
                return;
            }
            if (Integer.bitCount(used) >= n) {
                least = lacks;
                row = done;
                return;
            }
            for (int nut = 1; nut <= n; nut++) {
                if ((used >> nut & 1) == 0) {
                    tighten(n, used | 1 << nut, done * 10 + nut, lacks + lack(n, done % 10, nut));
                }
            }
        }

        private static int lack(int n, int nut, int other) {
            int way = Math.abs(nut - other);
            return Math.max(0, n / 2 - Math.min(way, n - way));
        }

        /** How crooked a row is; NONE, if it is no row of 3 to 6 nuts. */
        static int lacksOfRow(int row) {
            if (row < 100 || row > 999999) {
                return NONE;
            }
            int n = row > 99999 ? 6 : row > 9999 ? 5 : row > 999 ? 4 : 3;
            int used = 0;
            int lacks = 0;
            int rest = row;
            for (int k = 0; k < n; k++) {
                int nut = rest % 10;
                if (nut < 1 || nut > n || (used >> nut & 1) == 1) {
                    return NONE;
                }
                used |= 1 << nut;
                rest /= 10;
                if (rest > 0) {
                    lacks += lack(n, nut, rest % 10);
                }
            }
            return lacks;
        }
    }
}
