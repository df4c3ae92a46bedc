import java.nio.charset.StandardCharsets;
import java.util.Arrays;
import java.util.function.LongSupplier;

/** What the tests share: feeding texts, comparing answers, and ending with the exit code that is due. */
final class Check {
    private int done = 0;
    private int wrong = 0;

    static RainWheel fresh() {
        return new RainWheel();
    }

    /** Feeds a text in twenties, filled up with bytes that no text may hold. */
    static void feed(RainWheel wheel, String text) {
        byte[] bytes = text.getBytes(StandardCharsets.ISO_8859_1);
        byte[] whole = Arrays.copyOf(bytes, (bytes.length + 19) / 20 * 20);
        Arrays.fill(whole, bytes.length, whole.length, (byte) '#');
        for (int at = 0; at < whole.length; at += 20) {
            wheel.feed(word(whole, at), word(whole, at + 4), word(whole, at + 8), word(whole, at + 12), word(whole, at + 16));
        }
    }

    private static int word(byte[] bytes, int at) {
        return (bytes[at] & 255) << 24 | (bytes[at + 1] & 255) << 16 | (bytes[at + 2] & 255) << 8 | bytes[at + 3] & 255;
    }

    static int road(RainWheel wheel, String text) {
        feed(wheel, text);
        return wheel.road(text.length());
    }

    static int law(RainWheel wheel, String text) {
        feed(wheel, text);
        return wheel.law(text.length());
    }

    static int plan(RainWheel wheel, String text) {
        feed(wheel, text);
        return wheel.plan(text.length());
    }

    static int book(RainWheel wheel, String text) {
        feed(wheel, text);
        return wheel.book(text.length());
    }

    /** A wheel whose texts are all sound. */
    static RainWheel told(String road, String plan) {
        RainWheel wheel = fresh();
        if (road(wheel, road) < 0 || plan(wheel, plan) < 0) {
            throw new IllegalStateException("a fault at " + wheel.fault() + " in " + road + " / " + plan);
        }
        return wheel;
    }

    void due(String what, long got, long want) {
        done++;
        if (got != want) {
            wrong++;
            System.out.println(what + " answered " + got + ", due is " + want);
        }
    }

    void missing(String what, LongSupplier call) {
        refused(what, "NoSuchElementException", call);
    }

    void improper(String what, LongSupplier call) {
        refused(what, "IllegalArgumentException", call);
    }

    void untimely(String what, LongSupplier call) {
        refused(what, "IllegalStateException", call);
    }

    void refused(String what, String kind, LongSupplier call) {
        done++;
        String got;
        try {
            got = "nothing, but answered " + call.getAsLong();
        } catch (RuntimeException e) {
            got = e.getClass().getSimpleName();
        }
        if (!got.equals(kind)) {
            wrong++;
            System.out.println(what + " threw " + got + ", due is " + kind);
        }
    }

    int done() {
        return done;
    }

    int wrong() {
        return wrong;
    }

    void holds(String what, boolean truth) {
        due(what, truth ? 1 : 0, 1);
    }

    void end() {
        System.out.println(done + " checks, " + wrong + " wrong");
        if (wrong > 0) {
            System.exit(1);
        }
    }
}
