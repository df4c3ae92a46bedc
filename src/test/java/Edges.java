import java.lang.reflect.InvocationTargetException;
import java.lang.reflect.Method;
import java.util.ArrayList;
import java.util.Comparator;
import java.util.List;
import java.util.function.Supplier;
import java.util.function.ToLongBiFunction;
import java.util.function.ToLongFunction;

/**
 * What the tests of edges share. Each method with words of the document is a test of its own, and is counted as one.
 * At a refused call two wheels of the same history are compared: one has had the call, the other has not.
 */
abstract class Edges {
    static final String NO_SUCH = "NoSuchElementException";
    static final String IMPROPER = "IllegalArgumentException";
    static final String UNTIMELY = "IllegalStateException";

    /** A call on a wheel; what it answers. */
    interface Call extends ToLongFunction<RainWheel> {
    }

    /** A call on a wheel with one number that is looked at. */
    interface CallWith extends ToLongBiFunction<RainWheel, Integer> {
    }

    final Check check = new Check();

    final void runAll() {
        List<Method> tests = new ArrayList<>();
        for (Method method : getClass().getDeclaredMethods()) {
            if (method.isAnnotationPresent(Says.class)) {
                tests.add(method);
            }
        }
        tests.sort(Comparator.comparing(Method::getName));
        for (Method test : tests) {
            runOne(test);
        }
        System.out.print(tests.size() + " tests, ");
        check.end();
    }

    private void runOne(Method test) {
        int before = check.done();
        int wrong = check.wrong();
        try {
            test.invoke(this);
        } catch (InvocationTargetException e) {
            check.holds(test.getName() + " ended by " + e.getCause(), false);
        } catch (IllegalAccessException e) {
            check.holds(test.getName() + " can't be run", false);
        }
        check.holds(test.getName() + " looks at something", check.done() > before);
        if (check.wrong() > wrong) {
            System.out.println("broken: " + test.getName() + ": " + String.join(" / ", test.getAnnotation(Says.class).value()));
        }
    }

    // ---- wheels with a history ----

    static final String ROAD = "person 4;person 6;person 5;deed 3 0 1 0;deed 5 1 1 5;deed 4 1 2 9;deed 2 0 1 0;needs 1 0;needs 2 1;"
        + "needs 3 0;rain 2 6;yard 5 8;board 3;board 1;load 21;nut 6;nut 3;stops 4;cause 6 8 4 0;cause 2 16 8 8;loses 5;soft 20 5;";
    static final String PLAN = "0 0;1 1;3 0;2 0 1;";

    /** A wheel of which all is told: 3 people, 4 deeds, 2 boards, nuts and causes; nothing changed, the tape empty. */
    static RainWheel told() {
        RainWheel wheel = Check.told(ROAD, PLAN);
        if (Check.law(wheel, "minutes+rain") != 1 || Check.book(wheel, "0 1;") != 1) {
            throw new IllegalStateException("a fault at " + wheel.fault());
        }
        return wheel;
    }

    /** The same with changes, images, refusals, a fault, and two lines of a book on the tape. */
    static RainWheel rich() {
        RainWheel wheel = told();
        wheel.swap(1, 2);
        wheel.image();
        wheel.hand(0, 2);
        wheel.drop(3);
        wheel.image();
        wheel.swap(0, 1);
        refusals(wheel);
        Check.book(wheel, "0 1;  7");
        Check.feed(wheel, "1 1;2 0;            ");
        return wheel;
    }

    /** The same with an empty tape: an empty law is a fault, which takes the tape and changes nothing else. */
    static RainWheel richWithoutTape() {
        RainWheel wheel = rich();
        wheel.law(0);
        return wheel;
    }

    /** A wheel with more deeds than SOONEST takes. */
    static RainWheel sixDeeds() {
        RainWheel wheel = Check.told("person 4;person 2;" + "deed 2 1 1 0;".repeat(6) + "rain 1 3;board 2;nut 4;cause 1 2 3 4;", "5 0;4 1;0 0;");
        wheel.drop(1);
        wheel.image();
        Check.feed(wheel, "1 1;2 0;            ");
        return wheel;
    }

    private static void refusals(RainWheel wheel) {
        try {
            wheel.told(9);
        } catch (IllegalArgumentException e) {
            // Counted, as is due.
        }
        try {
            wheel.strong(3);
        } catch (java.util.NoSuchElementException e) {
            // Counted, as is due.
        }
    }

    // ---- refused calls, and calls that change nothing ----

    final void refused(String what, String kind, Supplier<RainWheel> maker, Call call) {
        RainWheel wheel = maker.get();
        check.refused(what, kind, () -> call.applyAsLong(wheel));
        Portrait due = Portrait.of(maker.get());
        String count = kind.equals(NO_SUCH) ? Portrait.MISSING : kind.equals(IMPROPER) ? Portrait.IMPROPER : Portrait.UNTIMELY;
        due.but(count, due.see(count) + 1);
        same("behind " + what, wheel, due);
    }

    final void improper(String what, Call call) {
        refused(what, IMPROPER, Edges::rich, call);
    }

    final void missing(String what, Call call) {
        refused(what, NO_SUCH, Edges::rich, call);
    }

    final void changesNothing(String what, Supplier<RainWheel> maker, long due, Call call) {
        RainWheel wheel = maker.get();
        check.due(what, call.applyAsLong(wheel), due);
        same("behind " + what, wheel, Portrait.of(maker.get()));
    }

    final void same(String what, RainWheel wheel, Portrait due) {
        String differs = Portrait.of(wheel).differsFrom(due);
        check.holds(what + ":" + differs, differs.isEmpty());
    }

    // ---- ranges ----

    /** The least and the greatest are taken; those beyond them are refused, and nothing but the count of it changes. */
    final void range(String what, int low, int high, CallWith call) {
        for (int value : new int[] {low, high}) {
            RainWheel wheel = rich();
            int before = wheel.status(0) + wheel.status(1) + wheel.status(2);
            try {
                call.applyAsLong(wheel, value);
            } catch (RuntimeException e) {
                check.holds(what + " " + value + " is taken, not " + e, false);
            }
            check.due(what + " " + value + " refuses nothing", wheel.status(0) + wheel.status(1) + wheel.status(2), before);
        }
        for (int value : new int[] {low - 1, high + 1, Integer.MIN_VALUE, Integer.MAX_VALUE, low - 16, high + 256}) {
            improper(what + " " + value, x -> call.applyAsLong(x, value));
        }
    }

    /** The elements 0 to many less 1 are there, others not, and none on an empty road. */
    final void elements(String what, int many, CallWith call) {
        for (int value : new int[] {0, many - 1}) {
            RainWheel wheel = rich();
            int before = wheel.status(0);
            try {
                call.applyAsLong(wheel, value);
            } catch (RuntimeException e) {
                check.holds(what + " " + value + " is there, no " + e, false);
            }
            check.due(what + " " + value + " is there", wheel.status(0), before);
        }
        for (int value : new int[] {-1, many, many + 16, Integer.MIN_VALUE, Integer.MAX_VALUE}) {
            missing(what + " " + value, x -> call.applyAsLong(x, value));
        }
        refused(what + " 0 where there are none", NO_SUCH, RainWheel::new, x -> call.applyAsLong(x, 0));
    }

    // ---- texts ----

    /** A way to tell a text: road, law, plan or book. */
    interface Teller {
        int tell(RainWheel wheel, String text);
    }

    /** A text with a fault: its kind less 10, its place, the tape empty, and all else as it was. */
    final void fault(Teller teller, String text, int kind, int place) {
        RainWheel wheel = told();
        check.due("'" + text + "'", teller.tell(wheel, text), kind - 10);
        check.due("the place in '" + text + "'", wheel.fault(), place);
        check.due("the tape behind '" + text + "'", wheel.count(1), 0);
        same("all stays behind '" + text + "'", wheel, Portrait.of(told()).but(Portrait.FAULT, place));
    }

    final RainWheel sound(Teller teller, String text, int due) {
        RainWheel wheel = told();
        check.due("'" + text + "'", teller.tell(wheel, text), due);
        check.due("no fault in '" + text + "'", wheel.fault(), RainWheel.NONE);
        return wheel;
    }

    /**
     * A number in a text: the least and the greatest are taken, others are FAULT 2 at their first digit, however many
     * digits there are, also if they would be one of those in 32 or 64 bits.
     */
    final void number(Teller teller, String ahead, int low, int high, String behind, int due) {
        for (String value : new String[] {"" + low, "" + high, "000" + low, "0".repeat(14) + high}) {
            sound(teller, ahead + value + behind, due);
        }
        java.math.BigInteger big = java.math.BigInteger.ONE.shiftLeft(32);
        for (String value : new String[] {"" + (high + 1), "0" + (high + 1), big.add(java.math.BigInteger.valueOf(low)).toString(),
            big.multiply(big).add(java.math.BigInteger.valueOf(high)).toString()}) {
            fault(teller, ahead + value + behind, 2, ahead.length());
        }
        if (low > 0) {
            fault(teller, ahead + (low - 1) + behind, 2, ahead.length());
        }
        fault(teller, ahead + "-1" + behind, 1, ahead.length());
    }

    /** A sound text cut off ahead of its end: where words and numbers are whole, it ends too early, at its length. */
    final void cutShort(Teller teller, String text, int from) {
        for (int length = from; length < text.length(); length++) {
            String part = text.substring(0, length);
            int place = length;
            while (place > 0 && isLetter(part.charAt(place - 1)) && isLetter(text.charAt(length))) {
                place--;
            }
            boolean inWord = place < length;
            fault(teller, part, 1, inWord ? place : length);
            if (!inWord) {
                fault(teller, part + "  ", 1, length + 2);
            }
        }
    }

    private static boolean isLetter(char c) {
        return c >= 'a' && c <= 'z';
    }

    static String blanks(int many) {
        return " ".repeat(many);
    }
}
