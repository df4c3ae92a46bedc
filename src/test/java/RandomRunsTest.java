import java.util.ArrayList;
import java.util.List;
import java.util.Random;
import java.util.function.LongSupplier;

/** Random runs of calls, wrong ones among them, on RainWheel and on the plain model: every answer is compared. */
public final class RandomRunsTest {
    private static final int RUNS = 700;
    private static final int CALLS = 400;

    private final Random random;
    private final RainWheel wheel = new RainWheel();
    private final Plain plain = new Plain();
    private final List<String> history = new ArrayList<>();
    private int wrong = 0;

    private RandomRunsTest(long seed) {
        random = new Random(seed);
    }

    public static void main(String[] args) {
        int wrong = 0;
        int[] sound = new int[8];
        for (int run = 0; run < RUNS && wrong == 0; run++) {
            RandomRunsTest test = new RandomRunsTest(run);
            test.run(sound);
            wrong += test.wrong;
        }
        System.out.println(RUNS + " runs of " + CALLS + " calls, sound and faulty texts: " + java.util.Arrays.toString(sound) + ", wrong: " + wrong);
        if (wrong > 0) {
            System.exit(1);
        }
        for (int kind = 0; kind < 8; kind++) {
            if (sound[kind] < 200) {
                System.out.println("too few texts of kind " + kind);
                System.exit(1);
            }
        }
    }

    private int below(int n) {
        return random.nextInt(n);
    }

    private int from(int low, int high) {
        return low + below(high - low + 1);
    }

    private boolean once(int of) {
        return below(of) == 0;
    }

    /** Mostly a number from low to high, now and then one just outside or far outside. */
    private int about(int low, int high) {
        switch (below(40)) {
            case 0:
                return low - 1;
            case 1:
                return high + 1;
            case 2:
                return random.nextInt();
            case 3:
                return low;
            case 4:
                return high;
            default:
                return high < low ? low : from(low, high);
        }
    }

    private static long answer(LongSupplier call) {
        try {
            return call.getAsLong();
        } catch (java.util.NoSuchElementException e) {
            return Long.MIN_VALUE;
        } catch (IllegalArgumentException e) {
            return Long.MIN_VALUE + 1;
        } catch (IllegalStateException e) {
            return Long.MIN_VALUE + 2;
        }
    }

    private long same(String what, LongSupplier got, LongSupplier want) {
        long one = answer(got);
        long two = answer(want);
        history.add(what + " = " + one);
        if (one != two && wrong == 0) {
            wrong++;
            System.out.println(String.join("\n", history));
            System.out.println("due is " + two);
        }
        return one;
    }

    private void run(int[] sound) {
        for (int call = 0; call < CALLS && wrong == 0; call++) {
            if (call == 0 || once(60)) {
                tell(0, 600, roadText(), sound);
            } else if (once(25)) {
                tell(1, 150, lawText(), sound);
            } else if (once(12)) {
                tell(2, 150, planText(), sound);
            } else if (once(25)) {
                tell(3, 40, bookText(), sound);
            } else {
                ask(below(49));
            }
        }
    }

    // ---- texts ----
    private void tell(int kind, int most, String text, int[] sound) {
        String whole = once(3) ? spoilt(text) : text;
        if (whole.length() > 580) {
            whole = whole.substring(0, 580);
        }
        Check.feed(wheel, whole);
        byte[] bytes = whole.getBytes(java.nio.charset.StandardCharsets.ISO_8859_1);
        for (int at = 0; at < (bytes.length + 19) / 20 * 20 && plain.tape.size() + 20 <= 600; at += 20) {
            for (int k = at; k < at + 20; k++) {
                plain.tape.add(k < bytes.length ? bytes[k] & 255 : '#');
            }
        }
        int n = once(50) ? about(0, most) : whole.length();
        history.add("text " + whole);
        long answer;
        if (kind == 0) {
            answer = same("road(" + n + ")", () -> wheel.road(n), () -> plain.road(n));
        } else if (kind == 1) {
            answer = same("law(" + n + ")", () -> wheel.law(n), () -> plain.law(n));
        } else if (kind == 2) {
            answer = same("plan(" + n + ")", () -> wheel.plan(n), () -> plain.plan(n));
        } else {
            answer = same("book(" + n + ")", () -> wheel.book(n), () -> plain.book(n));
        }
        sound[answer >= 0 ? kind : kind + 4]++;
        same("fault()", wheel::fault, () -> plain.place);
        same("count(1)", () -> wheel.count(1), () -> plain.count(1));
    }

    private String spoilt(String text) {
        StringBuilder s = new StringBuilder(text);
        for (int k = from(1, 2); k > 0; k--) {
            int at = below(s.length() + 1);
            String with = "0123456789 ;;  abz()[],+-*/A~" + (char) 233 + (char) 0;
            switch (below(5)) {
                case 0:
                    s.insert(at, with.charAt(below(with.length())));
                    break;
                case 1:
                    s.setLength(at);
                    break;
                case 2:
                    s.insert(at, " ");
                    break;
                default:
                    if (at < s.length()) {
                        if (once(2)) {
                            s.deleteCharAt(at);
                        } else {
                            s.setCharAt(at, with.charAt(below(with.length())));
                        }
                    }
                    break;
            }
        }
        return s.toString();
    }

    /** A number from low to high, now and then outside, or with noughts ahead of it. */
    private String num(int low, int high) {
        String digits = "" + (once(250) ? high + 1 + below(3) : once(60) ? low : once(60) ? high : from(low, Math.max(low, high)));
        return (once(30) ? "00" : "") + digits + (once(300) ? "000000000000" : "");
    }

    private String blanks() {
        return once(10) ? "  " : once(10) ? " " : "";
    }

    private String roadText() {
        StringBuilder s = new StringBuilder();
        int people = from(0, 4);
        int deeds = once(4) ? from(0, 12) : from(1, 5);
        if (once(12)) {
            people++;
        }
        if (once(25)) {
            deeds = 13;
        }
        clauses(s, people, () -> "person " + num(1, 9));
        clauses(s, deeds, () -> "deed " + num(1, 30) + " " + num(0, 1) + " " + num(1, once(2) ? 1 : 2) + " " + num(0, once(3) ? 18 : 6));
        int last = deeds - 1;
        if (deeds > 1) {
            clauses(s, from(0, 5), () -> {
                int d = from(1, last);
                return "needs " + d + " " + num(0, d - 1);
            });
        }
        clauses(s, from(0, once(9) ? 7 : 4), () -> {
            int f = from(0, once(2) ? 240 : 30);
            return "rain " + f + " " + num(f, Math.min(240, f + 20));
        });
        clauses(s, from(0, 5), () -> "yard " + num(0, 59) + " " + num(0, 20));
        clauses(s, from(0, once(9) ? 7 : 5), () -> "board" + (once(5) ? "" : " ") + num(1, 9));
        clauses(s, from(0, 2), () -> "load " + num(1, 99));
        clauses(s, from(0, once(9) ? 9 : 5), () -> "nut " + num(0, 15));
        clauses(s, from(0, 2), () -> "stops " + num(0, 16));
        clauses(s, from(0, once(9) ? 5 : 4), () -> "cause " + num(1, 16) + " " + num(0, 16) + " " + num(0, 16) + " " + num(0, 16));
        clauses(s, from(0, 2), () -> "loses " + num(0, 16));
        clauses(s, from(0, 2), () -> "soft " + num(0, 99) + " " + num(1, 9));
        if (once(12)) {
            s.setLength(Math.min(s.length(), 120));
            s.setLength(s.lastIndexOf(";") + 1);
            clauses(s, 60, () -> "load 7");
        }
        return s + blanks();
    }

    private void clauses(StringBuilder s, int many, java.util.function.Supplier<String> clause) {
        for (int k = 0; k < many; k++) {
            s.append(blanks()).append(clause.get()).append(blanks()).append(';');
        }
    }

    private String lawText() {
        return expression(once(10) ? 8 : from(0, 4));
    }

    private String expression(int deep) {
        StringBuilder s = new StringBuilder(unit(deep));
        for (int k = below(3); k > 0; k--) {
            s.append(blanks()).append("+-*/".charAt(below(4))).append(blanks()).append(unit(deep));
        }
        return s.toString();
    }

    private String unit(int deep) {
        if (deep > 0 && once(2)) {
            switch (below(3)) {
                case 0:
                    return "(" + expression(deep - 1) + blanks() + ")";
                case 1:
                    return "least" + blanks() + "[" + expression(deep - 1) + "," + expression(0) + "]";
                default:
                    return "most[" + expression(0) + blanks() + "," + blanks() + expression(deep - 1) + "]";
            }
        }
        String[] facts = {"minutes", "hands", "strong", "rain", "minute", "out", "minutes", "999"};
        return once(3) ? num(0, once(2) ? 9 : 999) : facts[below(facts.length)];
    }

    private String planText() {
        int people = plain.told(0);
        int deeds = plain.told(1);
        List<Integer> order = new ArrayList<>();
        for (int d = 0; d < deeds; d++) {
            order.add(d);
        }
        if (once(2)) {
            java.util.Collections.shuffle(order, random);
        }
        StringBuilder s = new StringBuilder();
        for (int d : order) {
            if (!once(8)) {
                int one = below(Math.max(1, people));
                boolean two = once(8) ? once(2) : plain.deed(d, 2) == 2;
                int other = once(20) || people < 2 ? one : (one + from(1, people - 1)) % people;
                s.append(blanks()).append(once(90) ? num(0, deeds - 1) : "" + d).append(' ').append(once(90) ? num(0, people) : "" + one);
                s.append(two ? " " + other : "").append(blanks()).append(';');
            }
        }
        return s.toString();
    }

    private String bookText() {
        StringBuilder s = new StringBuilder();
        clauses(s, from(0, 3), () -> num(0, 2) + " " + num(0, 1));
        return s.toString();
    }

    // ---- calls ----
    private void ask(int which) {
        if (which < 12) {
            askTold(which);
        } else if (which < 24) {
            askPlan(which);
        } else if (which < 39) {
            askGround(which);
        } else {
            askChanges(which);
        }
    }

    private void askTold(int which) {
        int a = about(0, plain.told(1) - 1);
        int b = about(0, 4);
        switch (which) {
            case 0: {
                int[] w = {random.nextInt(), random.nextInt(), random.nextInt(), random.nextInt(), random.nextInt()};
                same("feed", () -> wheel.feed(w[0], w[1], w[2], w[3], w[4]), () -> plain.feed(w));
                break;
            }
            case 1: {
                int what = about(0, 8);
                same("told(" + what + ")", () -> wheel.told(what), () -> plain.told(what));
                break;
            }
            case 2:
                same("deed(" + a + "," + b + ")", () -> wheel.deed(a, b), () -> plain.deed(a, b));
                break;
            case 3:
                same("strong(" + b + ")", () -> wheel.strong(b), () -> plain.strong(b));
                break;
            case 4: {
                int yard = about(0, 59);
                same("bears(" + yard + ")", () -> wheel.bears(yard), () -> plain.bears(yard));
                break;
            }
            case 5: {
                int minute = about(0, 240);
                same("rains(" + minute + ")", () -> wheel.rains(minute) ? 1 : 0, () -> plain.rains(minute));
                break;
            }
            case 6:
            case 7: {
                int[] w = {about(1, 30), about(1, 2), about(0, 18), about(0, 1), about(0, 240), about(0, 1)};
                same("would" + java.util.Arrays.toString(w), () -> wheel.would(w[0], w[1], w[2], w[3], w[4], w[5]),
                    () -> plain.would(w[0], w[1], w[2], w[3], w[4], w[5]));
                break;
            }
            case 8:
                same("ahead(" + a + ")", () -> wheel.ahead(a), () -> plain.ahead(a));
                break;
            case 9:
                same("chain(" + a + ")", () -> wheel.chain(a), () -> plain.chain(a));
                break;
            case 10:
                same("status(" + b + ")", () -> wheel.status(b), () -> plain.status(b));
                break;
            default:
                same("count(" + b + ")", () -> wheel.count(b), () -> plain.count(b));
                break;
        }
    }

    private void askPlan(int which) {
        int line = about(0, plain.told(5) - 1);
        int person = about(0, plain.told(0) - 1);
        int what = about(0, 4);
        int deed = about(0, plain.told(1) - 1);
        int seed = random.nextInt();
        switch (which) {
            case 12:
            case 13:
                same("line(" + line + "," + what + ")", () -> wheel.line(line, what), () -> plain.line(line, what));
                break;
            case 14:
                same("span()", wheel::span, plain::span);
                break;
            case 15:
                same("wet(" + person + ")", () -> wheel.wet(person), () -> plain.wet(person));
                break;
            case 16:
                same("idle(" + person + ")", () -> wheel.idle(person), () -> plain.idle(person));
                break;
            case 17:
                same("umbrella()", wheel::umbrella, plain::umbrella);
                break;
            case 18:
            case 19:
                same("slack(" + deed + ")", () -> wheel.slack(deed), () -> plain.slack(deed));
                break;
            case 20:
                if (once(3)) {
                    same("urgent()", wheel::urgent, plain::urgent);
                }
                break;
            case 21:
                askSoonest();
                break;
            case 22: {
                int which3 = about(0, 2);
                same("evening(" + seed + "," + which3 + ")", () -> wheel.evening(seed, which3), () -> plain.evening(seed, which3));
                break;
            }
            default: {
                int many = about(1, 40);
                int which4 = about(0, 3);
                int near = once(9) ? Integer.MAX_VALUE - 3 : seed;
                same("evenings(" + near + "," + many + "," + which4 + ")", () -> wheel.evenings(near, many, which4),
                    () -> plain.evenings(near, many, which4));
                break;
            }
        }
    }

    /** The plain model looks at every plan, so only where there are not too many. */
    private void askSoonest() {
        if (plain.told(1) <= 5 && plain.told(1) * plain.told(0) > 12) {
            return;
        }
        int what = about(0, 1);
        int k = about(0, plain.told(1) - 1);
        same("soonest(" + what + ")", () -> wheel.soonest(what), () -> plain.soonest(what));
        same("first(" + k + ")", () -> wheel.first(k), () -> plain.first(k));
    }

    private void askGround(int which) {
        int yard = about(0, 59);
        int minutes = once(2) ? about(0, 240) : about(0, 9);
        int what = about(0, 1);
        int nut = about(0, plain.told(3) - 1);
        int s = about(0, 18);
        int m = about(0, once(2) ? 240 : 20);
        int h = about(0, once(2) ? 240 : 20);
        switch (which) {
            case 24: {
                int bits = about(0, (1 << plain.told(2)) - 1);
                same("sinks", () -> wheel.sinks(yard, bits, minutes), () -> plain.sinks(yard, bits, minutes));
                break;
            }
            case 25: {
                int depth = once(2) ? about(0, 9999) : about(0, 99);
                same("under " + yard + " " + minutes + " " + depth, () -> wheel.under(yard, minutes, depth), () -> plain.under(yard, minutes, depth));
                break;
            }
            case 26: {
                int c = about(0, 99);
                same("push", () -> wheel.push(yard, c, minutes, what), () -> plain.push(yard, c, minutes, what));
                break;
            }
            case 27: {
                int n = about(0, 7);
                same("tries", () -> wheel.tries(nut, n, s, what), () -> plain.tries(nut, n, s, what));
                break;
            }
            case 28:
                same("half", () -> wheel.half(nut, s), () -> plain.half(nut, s));
                break;
            case 29:
                same("easiest", () -> wheel.easiest(s), () -> plain.easiest(s));
                break;
            case 30: {
                int w = about(0, 8);
                same("waits", () -> wheel.waits(w, m, h, what), () -> plain.waits(w, m, h, what));
                break;
            }
            case 31:
                same("await", () -> wheel.await(m, h), () -> plain.await(m, h));
                break;
            case 32: {
                int n = once(9) ? about(3, 6) : about(3, 5);
                if (n < 6 || once(20)) {
                    same("cross", () -> wheel.cross(n, what), () -> plain.cross(n, what));
                }
                break;
            }
            case 33: {
                int row = rowOf(from(2, 7));
                same("crooked(" + row + ")", () -> wheel.crooked(row), () -> plain.crooked(row));
                break;
            }
            default:
                askRide(which, about(1, 30), what);
                break;
        }
    }

    private int rowOf(int n) {
        List<Integer> digits = new ArrayList<>();
        for (int d = 1; d <= n; d++) {
            digits.add(once(30) ? below(10) : d);
        }
        java.util.Collections.shuffle(digits, random);
        int row = 0;
        for (int d : digits) {
            row = row * 10 + d;
        }
        return once(30) ? -row : row;
    }

    private void askRide(int which, int n, int part) {
        int cause = about(0, plain.told(4) - 1);
        switch (which) {
            case 34:
                same("drive(" + n + ")", () -> wheel.drive(n), () -> plain.drive(n));
                break;
            case 35:
                same("pumps(" + n + ")", () -> wheel.pumps(n), () -> plain.pumps(n));
                break;
            case 36:
                same("odds", () -> wheel.odds(cause, part), () -> plain.odds(cause, part));
                break;
            case 37:
                same("likeliest()", wheel::likeliest, plain::likeliest);
                break;
            default: {
                int k = about(0, 12);
                same("ask()", wheel::ask, plain::ask);
                same("share(" + k + ")", () -> wheel.share(k), () -> plain.share(k));
                break;
            }
        }
    }

    private void askChanges(int which) {
        int line = about(0, plain.told(5) - 1);
        int other = about(0, plain.told(5) - 1);
        int people = about(1, (1 << plain.told(0)) - 1);
        switch (which) {
            case 39:
            case 40:
                same("swap(" + line + "," + other + ")", () -> wheel.swap(line, other), () -> plain.swap(line, other));
                break;
            case 41:
            case 42:
                same("hand(" + line + "," + people + ")", () -> wheel.hand(line, people), () -> plain.hand(line, people));
                break;
            case 43:
                same("drop(" + line + ")", () -> wheel.drop(line), () -> plain.drop(line));
                break;
            case 44:
            case 45:
                same("undo()", wheel::undo, plain::undo);
                break;
            case 46:
            case 47:
                same("image()", wheel::image, plain::image);
                break;
            default:
                same("restore()", wheel::restore, plain::restore);
                break;
        }
    }
}
