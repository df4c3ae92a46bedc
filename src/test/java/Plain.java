import java.math.BigInteger;
import java.util.ArrayList;
import java.util.Arrays;
import java.util.HashMap;
import java.util.List;
import java.util.Map;
import java.util.NoSuchElementException;

/**
 * The document once more, as plainly as it can be written, with no regard for speed or room: what RainWheel is
 * compared with. It shares no code with it and does most things another way (tokens and trees, minute by minute,
 * full enumeration, whole copies to undo).
 */
final class Plain {
    static final class Fault extends RuntimeException {
        private static final long serialVersionUID = 1L;
        final int kind;
        final int place;

        Fault(int kind, int place) {
            this.kind = kind;
            this.place = place;
        }
    }

    record Token(char kind, String text, int place) {
    }

    record Deed(int minutes, int out, int hands, int strength, List<Integer> needs) {
    }

    record Line(int deed, int people) {
    }

    record Cause(int likely, int[] signs) {
    }

    record Times(int[] begins, int[] ends, int span, int[] wet, int[] busy, int again) {
        int wetOfAll() {
            return Arrays.stream(wet).sum();
        }
    }

    record Memory(List<Line> plan, List<List<Line>> pasts) {
    }

    interface Term {
        int of(Map<String, Integer> facts);
    }

    // ---- the state ----
    final List<Integer> tape = new ArrayList<>();
    List<Integer> strong = new ArrayList<>();
    List<Deed> deeds = new ArrayList<>();
    boolean[] rain = new boolean[241];
    int[] ground = new int[60];
    List<Integer> boards = new ArrayList<>();
    List<Integer> nuts = new ArrayList<>();
    List<Cause> causes = new ArrayList<>();
    int load = 20;
    int stops = 2;
    int loses = 0;
    int soft = 30;
    int every = 5;
    Term law = facts -> facts.get("minutes");
    List<Line> plan = new ArrayList<>();
    List<List<Line>> pasts = new ArrayList<>();
    Map<Integer, Integer> book = new HashMap<>();
    List<Memory> images = new ArrayList<>();
    int place = -1;
    int[] refused = new int[3];

    Plain() {
        Arrays.fill(ground, 3);
    }

    // ---- texts ----
    private List<Token> tokens = new ArrayList<>();
    private int at = 0;

    private static List<Token> cut(String text) {
        List<Token> all = new ArrayList<>();
        int k = 0;
        while (k < text.length()) {
            char c = text.charAt(k);
            int from = k;
            if (c == ' ') {
                k++;
                continue;
            } else if (c >= '0' && c <= '9') {
                while (k < text.length() && text.charAt(k) >= '0' && text.charAt(k) <= '9') {
                    k++;
                }
                all.add(new Token('9', text.substring(from, k), from));
            } else if (c >= 'a' && c <= 'z') {
                while (k < text.length() && text.charAt(k) >= 'a' && text.charAt(k) <= 'z') {
                    k++;
                }
                all.add(new Token('a', text.substring(from, k), from));
            } else {
                k++;
                all.add(new Token('!', text.substring(from, k), from));
            }
        }
        all.add(new Token('.', "", text.length()));
        return all;
    }

    private Token see() {
        return tokens.get(at);
    }

    private boolean sees(String text) {
        return see().kind() != '.' && see().text().equals(text);
    }

    private void sign(String text) {
        if (!sees(text)) {
            throw new Fault(1, see().place());
        }
        at++;
    }

    private int number(int low, int high) {
        Token token = see();
        if (token.kind() != '9') {
            throw new Fault(1, token.place());
        }
        at++;
        BigInteger value = new BigInteger(token.text());
        if (value.compareTo(BigInteger.valueOf(low)) < 0 || value.compareTo(BigInteger.valueOf(high)) > 0) {
            throw new Fault(2, token.place());
        }
        return value.intValueExact();
    }

    int feed(int... words) {
        if (tape.size() + 20 > 600) {
            return -1;
        }
        for (int word : words) {
            for (int k = 3; k >= 0; k--) {
                tape.add(word >>> 8 * k & 255);
            }
        }
        return tape.size();
    }

    private void begin(int n, int most) {
        proper(n >= 0 && n <= tape.size() && n <= most);
        StringBuilder text = new StringBuilder();
        for (int k = 0; k < n; k++) {
            text.append((char) (int) tape.get(k));
        }
        tape.clear();
        tokens = cut(text.toString());
        at = 0;
        place = -1;
    }

    private int failed(Fault fault) {
        place = fault.place;
        return fault.kind - 10;
    }

    int road(int n) {
        begin(n, 600);
        Plain other = new Plain();
        other.tokens = tokens;
        try {
            other.readRoad();
        } catch (Fault fault) {
            return failed(fault);
        }
        strong = other.strong;
        deeds = other.deeds;
        rain = other.rain;
        ground = other.ground;
        boards = other.boards;
        nuts = other.nuts;
        causes = other.causes;
        load = other.load;
        stops = other.stops;
        loses = other.loses;
        soft = other.soft;
        every = other.every;
        law = other.law;
        plan = other.plan;
        pasts = other.pasts;
        book = other.book;
        images = other.images;
        return deeds.size();
    }

    private void readRoad() {
        int clauses = 0;
        int rains = 0;
        while (see().kind() != '.') {
            Token word = see();
            if (!List.of("person", "deed", "needs", "rain", "yard", "board", "load", "nut", "stops", "cause", "loses", "soft")
                    .contains(word.text())) {
                throw new Fault(1, word.place());
            }
            clauses++;
            int have = switch (word.text()) {
                case "person" -> strong.size() * 100 + 4;
                case "deed" -> deeds.size() * 100 + 12;
                case "rain" -> rains * 100 + 6;
                case "board" -> boards.size() * 100 + 6;
                case "nut" -> nuts.size() * 100 + 8;
                case "cause" -> causes.size() * 100 + 4;
                default -> 99;
            };
            if (clauses > 60 || have / 100 + 1 > have % 100) {
                throw new Fault(3, word.place());
            }
            at++;
            switch (word.text()) {
                case "person" -> strong.add(number(1, 9));
                case "deed" -> deeds.add(new Deed(number(1, 30), number(0, 1), number(1, 2), number(0, 18), new ArrayList<>()));
                case "needs" -> {
                    int deed = number(0, deeds.size() - 1);
                    deeds.get(deed).needs().add(number(0, deed - 1));
                }
                case "rain" -> {
                    rains++;
                    int from = number(0, 240);
                    int to = number(from, 240);
                    for (int m = from; m <= to; m++) {
                        rain[m] = true;
                    }
                }
                case "yard" -> {
                    int yard = number(0, 59);
                    ground[yard] = number(0, 20);
                }
                case "board" -> boards.add(number(1, 9));
                case "load" -> load = number(1, 99);
                case "nut" -> nuts.add(number(0, 15));
                case "stops" -> stops = number(0, 16);
                case "cause" -> causes.add(new Cause(number(1, 16), new int[] {number(0, 16), number(0, 16), number(0, 16)}));
                case "loses" -> loses = number(0, 16);
                default -> {
                    soft = number(0, 99);
                    every = number(1, 9);
                }
            }
            sign(";");
        }
    }

    int law(int n) {
        begin(n, 150);
        try {
            Term term = sum(0);
            if (see().kind() != '.') {
                throw new Fault(1, see().place());
            }
            law = term;
        } catch (Fault fault) {
            return failed(fault);
        }
        return 1;
    }

    private Term sum(int open) {
        Term left = product(open);
        while (sees("+") || sees("-")) {
            boolean plus = sees("+");
            at++;
            Term one = left;
            Term two = product(open);
            left = plus ? f -> one.of(f) + two.of(f) : f -> one.of(f) - two.of(f);
        }
        return left;
    }

    private Term product(int open) {
        Term left = unit(open);
        while (sees("*") || sees("/")) {
            boolean times = sees("*");
            at++;
            Term one = left;
            Term two = unit(open);
            left = times ? f -> one.of(f) * two.of(f) : f -> two.of(f) == 0 ? 0 : one.of(f) / two.of(f);
        }
        return left;
    }

    private Term unit(int open) {
        Token token = see();
        if (token.kind() == '9') {
            int value = number(0, 999);
            return f -> value;
        }
        boolean opens = List.of("(", "least", "most").contains(token.text());
        if (opens && open == 6) {
            throw new Fault(3, token.place());
        }
        at = opens || token.kind() == 'a' ? at + 1 : at;
        switch (token.text()) {
            case "(": {
                Term inner = sum(open + 1);
                sign(")");
                return inner;
            }
            case "least", "most": {
                sign("[");
                Term one = sum(open + 1);
                sign(",");
                Term two = sum(open + 1);
                sign("]");
                return token.text().equals("least") ? f -> Math.min(one.of(f), two.of(f)) : f -> Math.max(one.of(f), two.of(f));
            }
            case "minutes", "hands", "strong", "rain", "minute", "out":
                return f -> f.get(token.text());
            default:
                throw new Fault(1, token.place());
        }
    }

    int plan(int n) {
        begin(n, 150);
        List<Line> lines = new ArrayList<>();
        try {
            while (see().kind() != '.') {
                int where = see().place();
                int deed = number(0, deeds.size() - 1);
                if (lines.stream().anyMatch(l -> l.deed() == deed)) {
                    throw new Fault(2, where);
                }
                int people = 1 << number(0, strong.size() - 1);
                if (see().kind() == '9') {
                    where = see().place();
                    int second = 1 << number(0, strong.size() - 1);
                    if (second == people) {
                        throw new Fault(2, where);
                    }
                    people |= second;
                }
                sign(";");
                lines.add(new Line(deed, people));
            }
        } catch (Fault fault) {
            return failed(fault);
        }
        plan = lines;
        pasts = new ArrayList<>();
        return plan.size();
    }

    int book(int n) {
        begin(n, 40);
        Map<Integer, Integer> seen = new HashMap<>();
        try {
            while (see().kind() != '.') {
                int where = see().place();
                int sign = number(0, 2);
                if (seen.containsKey(sign)) {
                    throw new Fault(2, where);
                }
                seen.put(sign, number(0, 1));
                sign(";");
            }
        } catch (Fault fault) {
            return failed(fault);
        }
        book = seen;
        return book.size();
    }

    // ---- refusals ----
    private void proper(boolean good) {
        if (!good) {
            refused[1]++;
            throw new IllegalArgumentException();
        }
    }

    private void in(int value, int low, int high) {
        proper(low <= value && value <= high);
    }

    private void there(int number, List<?> list) {
        if (number < 0 || number >= list.size()) {
            refused[0]++;
            throw new NoSuchElementException();
        }
    }

    // ---- what was told ----
    int told(int what) {
        in(what, 0, 8);
        return List.of(strong.size(), deeds.size(), boards.size(), nuts.size(), causes.size(), plan.size(), book.size(), load, stops)
            .get(what);
    }

    int deed(int deed, int what) {
        there(deed, deeds);
        in(what, 0, 4);
        Deed d = deeds.get(deed);
        int bits = d.needs().stream().mapToInt(e -> 1 << e).reduce(0, (a, b) -> a | b);
        return new int[] {d.minutes(), d.out(), d.hands(), d.strength(), bits}[what];
    }

    int strong(int person) {
        there(person, strong);
        return strong.get(person);
    }

    int bears(int yard) {
        in(yard, 0, 59);
        return ground[yard];
    }

    int rains(int minute) {
        in(minute, 0, 240);
        return rain[minute] ? 1 : 0;
    }

    int would(int minutes, int hands, int strong, int rain, int minute, int out) {
        in(minutes, 1, 30);
        in(hands, 1, 2);
        in(strong, 0, 18);
        in(rain, 0, 1);
        in(minute, 0, 240);
        in(out, 0, 1);
        return lasts(minutes, hands, strong, rain, minute, out);
    }

    private int lasts(int minutes, int hands, int strong, int rain, int minute, int out) {
        int value = law.of(Map.of("minutes", minutes, "hands", hands, "strong", strong, "rain", rain, "minute", minute, "out", out));
        return value < 1 ? 1 : value > 99 ? 99 : value;
    }

    // ---- plans ----
    private boolean rainsIn(int minute) {
        return minute < 241 && rain[minute];
    }

    private int strengthOf(int people) {
        int all = 0;
        for (int p = 0; p < strong.size(); p++) {
            all += (people >> p & 1) * strong.get(p);
        }
        return all;
    }

    /** Each person's minutes are marked one by one; a deed begins where all its marks are free from there on. */
    private Times run(List<Line> lines, int longer, int by, int q, int firstSeed) {
        int n = lines.size();
        int[] begins = new int[n];
        int[] ends = new int[n];
        int seed = firstSeed;
        int again = 0;
        Map<Integer, Integer> ended = new HashMap<>();
        int end = 200 * n + 100;
        boolean[][] works = new boolean[strong.size()][end];
        int[] wet = new int[strong.size()];
        for (int k = 0; k < n; k++) {
            Line line = lines.get(k);
            Deed d = deeds.get(line.deed());
            boolean blocked = Integer.bitCount(line.people()) != d.hands() || strengthOf(line.people()) < d.strength()
                || !ended.keySet().containsAll(d.needs());
            begins[k] = -1;
            ends[k] = -1;
            if (blocked) {
                continue;
            }
            int begin = d.needs().stream().mapToInt(ended::get).max().orElse(0);
            for (int p = 0; p < strong.size(); p++) {
                for (int m = end - 1; (line.people() >> p & 1) == 1 && m >= begin; m--) {
                    if (works[p][m]) {
                        begin = m + 1;
                    }
                }
            }
            int once = lasts(d.minutes(), d.hands(), strengthOf(line.people()), d.out() == 1 && rainsIn(begin) ? 1 : 0, begin, d.out());
            int last = k == longer ? once + by : once;
            seed = seed * 1103515245 + 12345;
            if ((seed >>> 16) % 32768 % 16 < q) {
                last += once;
                again++;
            }
            begins[k] = begin;
            ends[k] = begin + last;
            ended.put(line.deed(), ends[k]);
            for (int p = 0; p < strong.size(); p++) {
                for (int m = begin; (line.people() >> p & 1) == 1 && m < ends[k]; m++) {
                    works[p][m] = true;
                    wet[p] += d.out() == 1 && rainsIn(m) ? 1 : 0;
                }
            }
        }
        int[] busy = new int[strong.size()];
        for (int p = 0; p < busy.length; p++) {
            for (boolean works1 : works[p]) {
                busy[p] += works1 ? 1 : 0;
            }
        }
        return new Times(begins, ends, Arrays.stream(ends).max().orElse(0) < 0 ? 0 : Arrays.stream(ends).max().orElse(0), wet, busy, again);
    }

    private Times asTold() {
        return run(plan, -1, 0, 0, 0);
    }

    int line(int line, int what) {
        there(line, plan);
        in(what, 0, 4);
        Times t = asTold();
        return new int[] {plan.get(line).deed(), plan.get(line).people(), t.begins()[line] < 0 ? 1 : 0, t.begins()[line], t.ends()[line]}[what];
    }

    int span() {
        return asTold().span();
    }

    int wet(int person) {
        there(person, strong);
        return asTold().wet()[person];
    }

    int idle(int person) {
        there(person, strong);
        return asTold().span() - asTold().busy()[person];
    }

    int umbrella() {
        int best = -1;
        int[] wet = asTold().wet();
        for (int p = wet.length - 1; p >= 0; p--) {
            if (wet[p] > 0 && (best < 0 || wet[p] >= wet[best])) {
                best = p;
            }
        }
        return best;
    }

    int slack(int deed) {
        there(deed, deeds);
        return slackOf(deed);
    }

    private int slackOf(int deed) {
        for (int k = 0; k < plan.size(); k++) {
            if (plan.get(k).deed() == deed && asTold().begins()[k] >= 0) {
                int more = 0;
                while (more < 99 && run(plan, k, more + 1, 0, 0).span() <= asTold().span()) {
                    more++;
                }
                return more;
            }
        }
        return -1;
    }

    int urgent() {
        int bits = 0;
        for (int d = 0; d < deeds.size(); d++) {
            bits |= slackOf(d) == 0 ? 1 << d : 0;
        }
        return bits;
    }

    int ahead(int deed) {
        there(deed, deeds);
        int bits = 0;
        for (int e : deeds.get(deed).needs()) {
            bits |= 1 << e | ahead(e);
        }
        return bits;
    }

    int chain(int deed) {
        there(deed, deeds);
        return deeds.get(deed).minutes() + deeds.get(deed).needs().stream().mapToInt(this::chain).max().orElse(0);
    }

    private int bestSpan;
    private int bestWet;
    private List<Line> bestPlan;

    private void enumerate(List<Line> lines) {
        if (lines.size() == deeds.size()) {
            Times t = run(lines, -1, 0, 0, 0);
            if (Arrays.stream(t.begins()).allMatch(b -> b >= 0)
                    && (bestPlan == null || t.span() < bestSpan || t.span() == bestSpan && t.wetOfAll() < bestWet)) {
                bestSpan = t.span();
                bestWet = t.wetOfAll();
                bestPlan = new ArrayList<>(lines);
            }
            return;
        }
        for (int d = 0; d < deeds.size(); d++) {
            int deed = d;
            if (lines.stream().noneMatch(l -> l.deed() == deed)) {
                for (int people = 1; people < 1 << strong.size(); people++) {
                    // A line that is blocked by its people or by what is not yet done can't be in the plan.
                    boolean fits = Integer.bitCount(people) == deeds.get(d).hands() && strengthOf(people) >= deeds.get(d).strength();
                    boolean ready = deeds.get(d).needs().stream().allMatch(e -> lines.stream().anyMatch(l -> l.deed() == e));
                    if (fits && ready) {
                        lines.add(new Line(d, people));
                        enumerate(lines);
                        lines.remove(lines.size() - 1);
                    }
                }
            }
        }
    }

    private void seek() {
        if (deeds.size() > 5) {
            refused[2]++;
            throw new IllegalStateException();
        }
        bestPlan = null;
        enumerate(new ArrayList<>());
    }

    /** Span, wet of all, and 100 times the deed and its people of each line, from one look at all plans. */
    List<Integer> best() {
        seek();
        List<Integer> all = new ArrayList<>();
        all.add(bestPlan == null ? -1 : bestSpan);
        all.add(bestPlan == null ? -1 : bestWet);
        for (int k = 0; k < deeds.size(); k++) {
            all.add(bestPlan == null ? -1 : 100 * bestPlan.get(k).deed() + bestPlan.get(k).people());
        }
        return all;
    }

    int soonest(int what) {
        in(what, 0, 1);
        seek();
        return bestPlan == null ? -1 : what == 0 ? bestSpan : bestWet;
    }

    int first(int k) {
        in(k, 0, deeds.size() - 1);
        seek();
        return bestPlan == null ? -1 : 100 * bestPlan.get(k).deed() + bestPlan.get(k).people();
    }

    // ---- the jack ----
    private int depth(int yard, int bits, int minutes) {
        int broad = 1;
        for (int b = 0; b < boards.size(); b++) {
            broad += (bits >> b & 1) * boards.get(b);
        }
        int deep = 0;
        for (int m = 0; m < minutes; m++) {
            deep += Math.max(0, load / broad - ground[yard]);
        }
        return deep;
    }

    int sinks(int yard, int bits, int minutes) {
        in(yard, 0, 59);
        in(bits, 0, (1 << boards.size()) - 1);
        in(minutes, 0, 240);
        return depth(yard, bits, minutes);
    }

    int under(int yard, int minutes, int deepest) {
        in(yard, 0, 59);
        in(minutes, 0, 240);
        in(deepest, 0, 9999);
        for (int few = 0; few <= 6; few++) {
            for (int bits = 0; bits < 1 << boards.size(); bits++) {
                if (Integer.bitCount(bits) == few && depth(yard, bits, minutes) <= deepest) {
                    return bits;
                }
            }
        }
        return -1;
    }

    int push(int yard, int c, int minutes, int what) {
        in(yard, 0, 59);
        in(c, 0, 99);
        in(minutes, 0, 240);
        in(what, 0, 1);
        int best = 59;
        for (int y = 58; y >= 0; y--) {
            if (c * Math.abs(y - yard) + depth(y, 0, minutes) <= c * Math.abs(best - yard) + depth(best, 0, minutes)) {
                best = y;
            }
        }
        return what == 0 ? best : c * Math.abs(best - yard) + depth(best, 0, minutes);
    }

    // ---- fractions ----
    private static long part(BigInteger above, BigInteger below, int part) {
        BigInteger by = above.gcd(below);
        return (part == 0 ? above : below).divide(by).longValueExact();
    }

    private static BigInteger big(long value) {
        return BigInteger.valueOf(value);
    }

    private int loosely(int nut, int s) {
        int of16 = 2 * s - nuts.get(nut);
        return of16 < 0 ? 0 : of16 > 16 ? 16 : of16;
    }

    long tries(int nut, int n, int s, int part) {
        there(nut, nuts);
        in(n, 0, 7);
        in(s, 0, 18);
        in(part, 0, 1);
        // Loose after one more try: loose already, or not and now loose.
        BigInteger above = BigInteger.ZERO;
        BigInteger below = BigInteger.ONE;
        for (int k = 0; k < n; k++) {
            above = above.multiply(big(16)).add(below.subtract(above).multiply(big(loosely(nut, s))));
            below = below.multiply(big(16));
        }
        return part(above, below, part);
    }

    int half(int nut, int s) {
        there(nut, nuts);
        in(s, 0, 18);
        for (int n = 1; n <= 7; n++) {
            if (1 - Math.pow(1 - loosely(nut, s) / 16.0, n) >= 0.5) {
                return n;
            }
        }
        return -1;
    }

    int easiest(int s) {
        in(s, 0, 18);
        int best = -1;
        for (int nut = nuts.size() - 1; nut >= 0; nut--) {
            if (best < 0 || loosely(nut, s) >= loosely(best, s)) {
                best = nut;
            }
        }
        return best;
    }

    /** The mean over 16 to the w, by each minute in which the car may stop first. */
    private BigInteger meanAbove(int w, int m, int h) {
        BigInteger sum = big(16 - stops).pow(w).multiply(big(w + m));
        for (int k = 1; k <= w; k++) {
            sum = sum.add(big(16 - stops).pow(k - 1).multiply(big(stops)).multiply(big(16).pow(w - k)).multiply(big(k + h)));
        }
        return sum;
    }

    long waits(int w, int m, int h, int part) {
        in(w, 0, 8);
        in(m, 0, 240);
        in(h, 0, 240);
        in(part, 0, 1);
        return part(meanAbove(w, m, h), big(16).pow(w), part);
    }

    int await(int m, int h) {
        in(m, 0, 240);
        in(h, 0, 240);
        int best = 8;
        for (int w = 7; w >= 0; w--) {
            if (meanAbove(w, m, h).multiply(big(16).pow(best)).compareTo(meanAbove(best, m, h).multiply(big(16).pow(w))) <= 0) {
                best = w;
            }
        }
        return best;
    }

    // ---- nuts and the spare ----
    private static int lacks(String row) {
        int n = row.length();
        int sum = 0;
        for (int k = 1; k < n; k++) {
            int right = Math.floorMod(row.charAt(k) - row.charAt(k - 1), n);
            int left = Math.floorMod(row.charAt(k - 1) - row.charAt(k), n);
            sum += Math.max(0, n / 2 - Math.min(left, right));
        }
        return sum;
    }

    private static boolean isRow(String row) {
        boolean good = row.length() >= 3 && row.length() <= 6;
        for (int d = 1; good && d <= row.length(); d++) {
            good = row.indexOf((char) ('0' + d)) >= 0;
        }
        return good;
    }

    int cross(int n, int what) {
        in(n, 3, 6);
        in(what, 0, 1);
        int best = -1;
        for (int row = (int) Math.pow(10, n - 1); row < (int) Math.pow(10, n); row++) {
            if (isRow("" + row) && (best < 0 || lacks("" + row) < lacks("" + best))) {
                best = row;
            }
        }
        return what == 0 ? lacks("" + best) : best;
    }

    int crooked(int row) {
        proper(row > 0 && isRow("" + row));
        return lacks("" + row);
    }

    int share(int k) {
        in(k, 0, 12);
        int[] wheels = {4, 4, 4, 4};
        for (int lost = 0; lost < k; lost++) {
            Arrays.sort(wheels);
            wheels[3]--;
        }
        return Arrays.stream(wheels).min().orElse(0);
    }

    private final Map<Integer, int[]> rides = new HashMap<>();

    /** Minutes and pumps from a mile on, with so much in the spare: each number of pumps is tried. */
    private int[] ride(int mile, int n, int pressure) {
        if (mile > n) {
            return new int[] {0, 0};
        }
        int key = mile * 100 + pressure;
        if (!rides.containsKey(key)) {
            int[] best = null;
            int now = pressure;
            for (int pumps = 0; pumps <= 11; pumps++) {
                if (now >= 5) {
                    int lasts = 2 + (int) Math.ceil(Math.max(0, 30 - now) / 10.0);
                    int[] rest = ride(mile + 1, n, mile % every == 0 ? Math.max(0, now - 1) : now);
                    int[] all = {4 * pumps + lasts + rest[0], pumps + rest[1]};
                    if (best == null || all[0] < best[0] || all[0] == best[0] && all[1] < best[1]) {
                        best = all;
                    }
                }
                now = Math.min(99, now + 10);
            }
            rides.put(key, best);
        }
        return rides.get(key);
    }

    int drive(int n) {
        in(n, 1, 30);
        rides.clear();
        return ride(1, n, soft)[0];
    }

    int pumps(int n) {
        in(n, 1, 30);
        rides.clear();
        return ride(1, n, soft)[1];
    }

    // ---- causes ----
    private static long weight(Cause cause, Map<Integer, Integer> seen) {
        long weight = cause.likely();
        for (Map.Entry<Integer, Integer> e : seen.entrySet()) {
            weight *= e.getValue() == 1 ? cause.signs()[e.getKey()] : 16 - cause.signs()[e.getKey()];
        }
        return weight;
    }

    long odds(int cause, int part) {
        there(cause, causes);
        in(part, 0, 1);
        long all = causes.stream().mapToLong(c -> weight(c, book)).sum();
        return all == 0 ? part : part(big(weight(causes.get(cause), book)), big(all), part);
    }

    int likeliest() {
        int best = -1;
        for (int c = causes.size() - 1; c >= 0; c--) {
            if (weight(causes.get(c), book) > 0 && (best < 0 || weight(causes.get(c), book) >= weight(causes.get(best), book))) {
                best = c;
            }
        }
        return best;
    }

    int ask() {
        int best = -1;
        long most = -1;
        for (int sign = 0; sign < 3; sign++) {
            if (!book.containsKey(sign)) {
                long known = 0;
                for (int value = 0; value < 2; value++) {
                    Map<Integer, Integer> then = new HashMap<>(book);
                    then.put(sign, value);
                    known += causes.stream().mapToLong(c -> weight(c, then)).max().orElse(0);
                }
                if (known > most) {
                    most = known;
                    best = sign;
                }
            }
        }
        return best;
    }

    // ---- evenings ----
    int evening(int seed, int what) {
        in(what, 0, 2);
        Times t = run(plan, -1, 0, loses, seed);
        return new int[] {t.span(), t.wetOfAll(), t.again()}[what];
    }

    int evenings(int seed, int many, int what) {
        in(many, 1, 40);
        in(what, 0, 3);
        int[] spans = new int[many];
        int none = 0;
        for (int k = 0; k < many; k++) {
            Times t = run(plan, -1, 0, loses, seed + k);
            spans[k] = t.span();
            none += t.again() == 0 ? 1 : 0;
        }
        return switch (what) {
            case 0 -> Arrays.stream(spans).min().orElse(0);
            case 1 -> Arrays.stream(spans).max().orElse(0);
            case 2 -> Arrays.stream(spans).sum();
            default -> none;
        };
    }

    // ---- changes ----
    private boolean remember() {
        if (pasts.size() == 20) {
            return false;
        }
        pasts.add(plan);
        plan = new ArrayList<>(plan);
        return true;
    }

    int swap(int line, int other) {
        there(line, plan);
        there(other, plan);
        if (line == other) {
            return 0;
        }
        if (!remember()) {
            return -1;
        }
        Line one = plan.get(line);
        plan.set(line, plan.get(other));
        plan.set(other, one);
        return 1;
    }

    int hand(int line, int people) {
        there(line, plan);
        proper(people > 0 && people < 1 << strong.size() && Integer.bitCount(people) <= 2);
        if (!remember()) {
            return -1;
        }
        plan.set(line, new Line(plan.get(line).deed(), people));
        return 1;
    }

    int drop(int line) {
        there(line, plan);
        if (!remember()) {
            return -1;
        }
        plan.remove(line);
        return plan.size();
    }

    int undo() {
        if (pasts.isEmpty()) {
            return -1;
        }
        plan = pasts.remove(pasts.size() - 1);
        return pasts.size();
    }

    int image() {
        if (images.size() == 3) {
            return -1;
        }
        images.add(new Memory(new ArrayList<>(plan), new ArrayList<>(pasts)));
        return images.size();
    }

    int restore() {
        if (images.isEmpty()) {
            return -1;
        }
        Memory memory = images.remove(images.size() - 1);
        plan = memory.plan();
        pasts = memory.pasts();
        return images.size();
    }

    int status(int what) {
        return what < 0 || what > 2 ? -1 : refused[what];
    }

    int count(int what) {
        return what == 0 ? images.size() : what == 1 ? tape.size() : what == 2 ? pasts.size() : -1;
    }
}
