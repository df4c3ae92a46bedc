import java.util.ArrayList;
import java.util.List;
import java.util.function.Supplier;

/** The edges of evenings (part ==== 3. of the Terms) and of promises 41 to 50: evenings, changes, images, counts. */
public final class ChangeEdgesTest extends Edges {
    private static final int[] SEEDS = {0, 1, 2, 3, -1, 7, 12345, 65536, 1 << 30, Integer.MAX_VALUE, Integer.MIN_VALUE, -1103515245};

    public static void main(String[] args) {
        new ChangeEdgesTest().runAll();
    }

    // ---- evenings: promises 41, 42 ----

    /** The draws by 16 of a seed, one behind the other, reckoned in 64 bits. */
    private static int[] draws(int seed, int many) {
        long now = seed & 0xffffffffL;
        int[] all = new int[many];
        for (int k = 0; k < many; k++) {
            now = (now * 1103515245L + 12345L) % 4294967296L;
            all[k] = (int) (now / 65536 % 32768 % 16);
        }
        return all;
    }

    /** One person does twelve deeds of a minute, one behind the other, all of them out; it rains all the time. */
    private static RainWheel twelve(int loses) {
        return Check.told("person 1;" + "deed 1 1 1 0;".repeat(12) + "rain 0 240;loses " + loses + ";",
            "0 0;1 0;2 0;3 0;4 0;5 0;6 0;7 0;8 0;9 0;10 0;11 0;");
    }

    @Says("DRAW: the SEED (32 bits) becomes itself times 1,103,515,245, and 12,345 (it wraps); its bits 16 to 30, by 16 what is left of them")
    void draw() {
        for (int loses = 0; loses <= 16; loses++) {
            RainWheel x = twelve(loses);
            for (int seed : SEEDS) {
                int again = 0;
                for (int drawn : draws(seed, 12)) {
                    again += drawn < loses ? 1 : 0;
                }
                check.due("again: seed " + seed + ", loses " + loses, x.evening(seed, 2), again);
            }
        }
        check.due("seed 0 draws 0", draws(0, 1)[0], 0);
        check.due("seed 1 draws 16838, by 16 6", draws(1, 1)[0], 6);
    }

    @Says("An EVENING by a SEED: the PLAN as told, but behind each line that is not BLOCKED DRAW by 16 below Q of \"loses\"")
    void belowQ() {
        // Seed 1 draws 6 first: below 7, not below 6.
        for (int loses = 0; loses <= 16; loses++) {
            RainWheel x = Check.told("person 1;deed 5 0 1 0;loses " + loses + ";", "0 0;");
            check.due("loses " + loses, x.evening(1, 2), loses > 6 ? 1 : 0);
            check.due("span by loses " + loses, x.evening(1, 0), loses > 6 ? 10 : 5);
        }
        // Seed 1 draws 6, then 14: a blocked line ahead takes no draw.
        String road = "person 1;deed 5 0 1 0;deed 3 0 2 0;deed 7 0 1 0;loses 7;";
        check.due("0 is lost, 2 not", Check.told(road, "0 0;2 0;").evening(1, 0), 17);
        check.due("the blocked one draws nothing", Check.told(road, "1 0;0 0;2 0;").evening(1, 0), 17);
        check.due("nor between", Check.told(road, "0 0;1 0;2 0;").evening(1, 0), 17);
        check.due("the other way round", Check.told(road, "2 0;0 0;").evening(1, 0), 19);
        check.due("all blocked", Check.told(road, "1 0;").evening(1, 2), 0);
    }

    @Says("what it made is lost, and it is done once AGAIN at once (as long as before; the DRAW once for each)")
    void onceAgain() {
        for (int seed : SEEDS) {
            check.due("once, though all is lost: seed " + seed, twelve(16).evening(seed, 0), 24);
            check.due("wet all the time: seed " + seed, twelve(16).evening(seed, 1), 24);
            check.due("never: seed " + seed, twelve(0).evening(seed, 0), 12);
        }
        // As long as before, though by the law it would be dry and later.
        RainWheel x = Check.told("person 1;deed 2 1 1 0;rain 0 0;loses 16;", "0 0;");
        Check.law(x, "minutes+rain*4+minute*9");
        check.due("twice 6", x.evening(5, 0), 12);
        check.due("wet in the first minute alone", x.evening(5, 1), 1);
        Check.law(x, "999");
        check.due("twice 99", x.evening(5, 0), 198);
        // What needs it waits for it, and so do its people; the law tells by the later begin.
        RainWheel y = Check.told("person 1;person 1;deed 4 0 1 0;deed 3 1 1 0;deed 2 0 2 0;needs 1 0;rain 4 4;loses 7;", "0 0;1 1;2 0 1;");
        Check.law(y, "minutes+rain*9");
        check.due("as told 1 begins in the rain", y.span(), 18);
        // Seed 1: 6 and 14, then by the third draw; only the first is below 7 if that is 7 or more.
        int third = draws(1, 3)[2];
        check.due("8, 11, then the last", y.evening(1, 0), third < 7 ? 15 : 13);
        check.due("all that is told stays as it is", y.span(), 18);
    }

    @Says(promise = 41, value = "An EVENING: 0 SPAN, 1 WET of all, 2 how many were done AGAIN")
    void evening() {
        range("evening what", 0, 2, (x, what) -> x.evening(1, what));
        for (int seed : SEEDS) {
            changesNothing("no lines, seed " + seed, RainWheel::new, 0, x -> x.evening(seed, 0));
        }
        for (int seed : new int[] {Integer.MIN_VALUE, 0, Integer.MAX_VALUE}) {
            improper("any seed by what 3", x -> x.evening(seed, 3));
        }
        RainWheel both = Check.told("person 1;person 1;deed 3 1 2 0;rain 2 4;loses 16;", "0 0 1;");
        check.due("span", both.evening(9, 0), 6);
        check.due("wet of both", both.evening(9, 1), 6);
        check.due("again", both.evening(9, 2), 1);
    }

    @Says(promise = 41, value = "An EVENING: 0 SPAN, 1 WET of all, 2 how many were done AGAIN")
    void nothingOfAnEveningIsLeft() {
        String road = "person 1;person 1;deed 3 1 1 0;deed 4 1 1 0;deed 9 0 1 0;rain 0 99;loses 16;";
        Supplier<RainWheel> maker = () -> Check.told(road, "0 0;1 0;2 1;");
        changesNothing("an evening", maker, 18, x -> x.evening(1, 0));
        changesNothing("evenings", maker, 720, x -> x.evenings(1, 40, 2));
        RainWheel x = maker.get();
        Call[] calls = {RainWheel::span, y -> y.line(1, 4), y -> y.wet(0), y -> y.idle(0), RainWheel::umbrella, y -> y.slack(0), y -> y.slack(2),
            RainWheel::urgent, y -> y.soonest(0)};
        long[] due = {9, 7, 7, 2, 0, 2, 0, 4, 9};
        for (int k = 0; k < calls.length; k++) {
            x.evening(k, 0);
            check.due("behind an evening: call " + k, calls[k].applyAsLong(x), due[k]);
            x.slack(0);
            check.due("behind a slack: call " + k, calls[k].applyAsLong(x), due[k]);
        }
        x.slack(0);
        check.due("an evening behind a slack", x.evening(1, 0), 18);
        check.due("its wet", x.evening(1, 1), 14);
    }

    @Says(promise = 42, value = "Of so many SEEDS (1 to 40; seed, seed and 1, ..): 0 the least SPAN, 1 the greatest, 2 all together, 3 by how many none was done AGAIN")
    void evenings() {
        range("evenings many", 1, 40, (x, many) -> x.evenings(1, many, 0));
        range("evenings what", 0, 3, (x, what) -> x.evenings(1, 1, what));
        RainWheel x = twelve(3);
        for (int seed : new int[] {0, -20, Integer.MAX_VALUE, Integer.MAX_VALUE - 20, Integer.MIN_VALUE}) {
            for (int many : new int[] {1, 2, 40}) {
                int least = Integer.MAX_VALUE;
                int greatest = 0;
                int all = 0;
                int none = 0;
                for (int k = 0; k < many; k++) {
                    int again = 0;
                    // The seed behind the greatest is the least: it wraps, too.
                    for (int drawn : draws((int) ((long) seed + k), 12)) {
                        again += drawn < 3 ? 1 : 0;
                    }
                    least = Math.min(least, 12 + again);
                    greatest = Math.max(greatest, 12 + again);
                    all += 12 + again;
                    none += again == 0 ? 1 : 0;
                }
                int[] due = {least, greatest, all, none};
                for (int what = 0; what < 4; what++) {
                    check.due(many + " from " + seed + ": " + what, x.evenings(seed, many, what), due[what]);
                }
            }
        }
        int[] empty = {0, 0, 0, 40};
        for (int what = 0; what < 4; what++) {
            int asked = what;
            changesNothing("no lines: " + what, RainWheel::new, empty[what], y -> y.evenings(5, 40, asked));
        }
        RainWheel longest = twelve(16);
        Check.law(longest, "999");
        check.due("forty of the longest", longest.evenings(0, 40, 2), 40 * 12 * 198);
        check.due("none without one done again", longest.evenings(0, 40, 3), 0);
    }

    // ---- changes: promises 43 to 46 ----

    private static List<Integer> lines(RainWheel wheel) {
        List<Integer> all = new ArrayList<>();
        for (int line = 0; line < wheel.told(5); line++) {
            all.add(10 * wheel.line(line, 0) + wheel.line(line, 1));
        }
        return all;
    }

    private void order(String what, RainWheel wheel, Integer... due) {
        check.holds(what + ": " + lines(wheel) + ", due is " + List.of(due), lines(wheel).equals(List.of(due)));
    }

    /** As told, with so many changes: line 0 goes from hand to hand. The lines are 01 or 02, 12, 31, 23. */
    private static RainWheel changed(int many) {
        RainWheel wheel = told();
        for (int k = 0; k < many; k++) {
            wheel.hand(0, k % 2 == 0 ? 2 : 1);
        }
        wheel.image();
        return wheel;
    }

    private void atTwenty(String what, long due, Call call) {
        Supplier<RainWheel> full = () -> changed(20);
        changesNothing(what + " at 20 changes", full, -1, call);
        RainWheel x = changed(19);
        check.due(what + " at 19", call.applyAsLong(x), due);
        check.due("20 then", x.count(2), 20);
        RainWheel y = changed(20);
        y.undo();
        check.due(what + " when one is undone", call.applyAsLong(y), due);
        check.due("undone", y.undo(), 19);
        order("as it was", y, 2, 12, 31, 23);
    }

    @Says(promise = 43, value = "Two lines of the PLAN change places: 1; 0: they are one; -1: there are 20 changes")
    void swap() {
        elements("swap line", 3, (x, line) -> x.swap(line, 1));
        elements("swap other", 3, (x, line) -> x.swap(1, line));
        missing("both", x -> x.swap(3, 3));
        missing("both", x -> x.swap(-1, -1));
        for (int line = 0; line < 4; line++) {
            int one = line;
            changesNothing("they are one: " + line, Edges::told, 0, x -> x.swap(one, one));
            changesNothing("they are one at 20 changes: " + line, () -> changed(20), 0, x -> x.swap(one, one));
        }
        refused("no line at 20 changes", NO_SUCH, () -> changed(20), x -> x.swap(0, 4));
        atTwenty("swap", 1, x -> x.swap(1, 3));
        RainWheel x = told();
        check.due("swap", x.swap(0, 3), 1);
        order("the first and the last", x, 23, 12, 31, 1);
        check.due("swap", x.swap(2, 1), 1);
        order("two between", x, 23, 31, 12, 1);
        check.due("two changes", x.count(2), 2);
        check.due("undo", x.undo(), 1);
        order("one undone", x, 23, 12, 31, 1);
        check.due("undo", x.undo(), 0);
        order("both undone", x, 1, 12, 31, 23);
    }

    @Says(promise = 44, value = "A line gets other PEOPLE (bits, one or two of those there are): 1; -1: 20 changes")
    void hand() {
        elements("hand line", 3, (x, line) -> x.hand(line, 1));
        for (int people = 1; people <= 6; people++) {
            RainWheel x = told();
            check.due("hand to " + people, x.hand(2, people), 1);
            order("handed", x, 1, 12, 30 + people, 23);
            check.due("one change", x.count(2), 1);
            check.due("undo", x.undo(), 0);
            order("undone", x, 1, 12, 31, 23);
        }
        for (int people : new int[] {0, 7, 8, 9, 12, 15, 16, 257, -1, -2, Integer.MIN_VALUE, Integer.MIN_VALUE + 1, Integer.MAX_VALUE}) {
            improper("hand to " + people, x -> x.hand(2, people));
            refused("hand to " + people + " at 20 changes", IMPROPER, () -> changed(20), x -> x.hand(2, people));
        }
        atTwenty("hand", 1, x -> x.hand(3, 5));
        refused("no line at 20 changes", NO_SUCH, () -> changed(20), x -> x.hand(4, 1));
        RainWheel one = Check.told("person 1;deed 1 0 1 0;", "0 0;");
        check.due("the only one", one.hand(0, 1), 1);
        check.improper("nobody else", () -> one.hand(0, 2));
        check.improper("not two", () -> one.hand(0, 3));
        RainWheel four = Check.told("person 1;".repeat(4) + "deed 1 0 1 0;", "0 0;");
        for (int people = 0; people <= 16; people++) {
            int bits = people;
            int many = Integer.bitCount(people);
            if (many >= 1 && many <= 2 && people < 16) {
                check.due("four: " + people, four.hand(0, people), 1);
            } else {
                check.improper("four: " + people, () -> four.hand(0, bits));
            }
        }
        RainWheel same = told();
        check.due("to the same", same.hand(0, 1), 1);
        check.due("is a change", same.count(2), 1);
    }

    @Says(promise = 45, value = "A line is left out: how many are left; -1: 20 changes")
    void drop() {
        elements("drop", 3, (x, line) -> x.drop(line));
        atTwenty("drop", 3, x -> x.drop(3));
        refused("no line at 20 changes", NO_SUCH, () -> changed(20), x -> x.drop(4));
        Integer[][] due = {{12, 31, 23}, {1, 31, 23}, {1, 12, 23}, {1, 12, 31}};
        for (int line = 0; line < 4; line++) {
            RainWheel x = told();
            check.due("drop " + line, x.drop(line), 3);
            order("without " + line, x, due[line]);
            check.missing("no fourth line", () -> x.drop(3));
            check.due("undo", x.undo(), 0);
            order("undone " + line, x, 1, 12, 31, 23);
        }
        RainWheel x = told();
        for (int left = 3; left >= 0; left--) {
            check.due("left", x.drop(0), left);
        }
        check.missing("none left", () -> x.drop(0));
        check.due("no span", x.span(), 0);
        for (int left = 3; left >= 0; left--) {
            check.due("undo", x.undo(), left);
        }
        order("all again", x, 1, 12, 31, 23);
        RainWheel full = twelve(0);
        for (int left = 11; left >= 0; left--) {
            check.due("of twelve are left", full.drop(left / 2), left);
        }
        for (int left = 11; left >= 0; left--) {
            check.due("undone", full.undo(), left);
        }
        check.due("all twelve", full.told(5), 12);
        for (int line = 0; line < 12; line++) {
            check.due("line " + line, full.line(line, 0), line);
        }
    }

    @Says(promise = 46, value = "The latest change that was not undone is undone: how many are left; -1: there is none")
    void undo() {
        changesNothing("none", Edges::told, -1, RainWheel::undo);
        changesNothing("a new object", RainWheel::new, -1, RainWheel::undo);
        RainWheel x = told();
        x.swap(0, 1);
        x.drop(2);
        x.hand(2, 6);
        x.drop(0);
        order("four changes", x, 1, 26);
        check.due("a drop", x.undo(), 3);
        order("three", x, 12, 1, 26);
        check.due("a hand", x.undo(), 2);
        order("two", x, 12, 1, 23);
        x.hand(0, 4);
        order("another", x, 14, 1, 23);
        check.due("not one that was undone", x.undo(), 2);
        check.due("a drop", x.undo(), 1);
        order("one", x, 12, 1, 31, 23);
        check.due("a swap", x.undo(), 0);
        order("none", x, 1, 12, 31, 23);
        check.due("there is none", x.undo(), -1);
        RainWheel full = changed(20);
        for (int left = 19; left >= 0; left--) {
            check.due("left", full.undo(), left);
            check.due("counted", full.count(2), left);
            check.due("by whom", full.line(0, 1), left % 2 == 0 ? 1 : 2);
        }
        check.due("there is none", full.undo(), -1);
        Check.plan(full, PLAN);
        check.due("a new plan has none", full.undo(), -1);
    }

    // ---- images: promises 47, 48 ----

    private static RainWheel images(int many) {
        RainWheel wheel = told();
        for (int k = 0; k < many; k++) {
            wheel.hand(0, k + 2);
            wheel.image();
        }
        wheel.drop(3);
        return wheel;
    }

    @Says(promise = 47, value = "An IMAGE of the PLAN, changes that can be undone: how many there are; -1: there are 3")
    void image() {
        RainWheel x = told();
        for (int many = 1; many <= 3; many++) {
            check.due("image", x.image(), many);
            check.due("there are", x.count(0), many);
        }
        check.due("there are 3", x.image(), -1);
        check.due("still", x.count(0), 3);
        changesNothing("there are 3", () -> images(3), -1, RainWheel::image);
        RainWheel y = images(3);
        y.restore();
        check.due("one less, one more", y.image(), 3);
        check.due("and no more", y.image(), -1);
        check.due("of a new object", new RainWheel().image(), 1);
        RainWheel z = told();
        z.image();
        check.due("an image is no change", z.count(2), 0);
        order("nor does it change a line", z, 1, 12, 31, 23);
        RainWheel full = changed(20);
        full.undo();
        full.undo();
        check.due("restored", full.restore(), 0);
        check.due("with all 20 changes", full.count(2), 20);
        check.due("so there can be no more", full.hand(0, 1), -1);
    }

    @Says(promise = 48, value = "All is as in the latest IMAGE, which is gone: how many are left; -1: there is none")
    void restore() {
        changesNothing("none", Edges::told, -1, RainWheel::restore);
        changesNothing("a new object", RainWheel::new, -1, RainWheel::restore);
        RainWheel x = images(3);
        order("ahead of it", x, 4, 12, 31);
        check.due("the latest", x.restore(), 2);
        order("the third", x, 4, 12, 31, 23);
        check.due("its changes", x.count(2), 3);
        check.due("the next", x.restore(), 1);
        order("the second", x, 3, 12, 31, 23);
        check.due("its changes", x.count(2), 2);
        check.due("the last", x.restore(), 0);
        order("the first", x, 2, 12, 31, 23);
        check.due("its change", x.count(2), 1);
        check.due("undone", x.undo(), 0);
        order("as told", x, 1, 12, 31, 23);
        check.due("there is none", x.restore(), -1);
        order("all stays", x, 1, 12, 31, 23);
        // An image stands for itself: what is done behind it does not reach it.
        RainWheel y = told();
        y.swap(0, 1);
        y.image();
        y.undo();
        y.drop(1);
        y.hand(0, 4);
        check.due("restored", y.restore(), 0);
        order("with its lines", y, 12, 1, 31, 23);
        check.due("and its change", y.undo(), 0);
        order("undone", y, 1, 12, 31, 23);
        // An empty plan, too.
        RainWheel z = told();
        z.image();
        Check.plan(z, "");
        z.image();
        Check.plan(z, "0 0;");
        check.due("the empty one", z.restore(), 1);
        check.due("no lines", z.told(5), 0);
        check.due("the full one", z.restore(), 0);
        order("as told", z, 1, 12, 31, 23);
        RainWheel w = told();
        w.image();
        Check.law(w, "9");
        Check.book(w, "1 1;2 0;");
        w.feed(1, 2, 3, 4, 5);
        w.restore();
        check.due("the law is in no image", w.would(1, 1, 1, 1, 1, 1), 9);
        check.due("nor the book", w.told(6), 2);
        check.due("nor the tape", w.count(1), 20);
    }

    // ---- promises 49, 50 ----

    @Says(promise = 49, value = {"How many calls were refused: 0 NoSuchElementException, 1 IllegalArgumentException, 2 IllegalStateException; NONE for others",
        "(No IMAGE keeps it.)"})
    void status() {
        for (int what : new int[] {-1, 3, 4, Integer.MIN_VALUE, Integer.MAX_VALUE}) {
            changesNothing("status " + what, Edges::rich, RainWheel.NONE, x -> x.status(what));
        }
        RainWheel x = sixDeeds();
        for (int k = 1; k <= 30; k++) {
            check.missing("missing", () -> x.strong(2));
            check.due("status 0", x.status(0), k);
            check.improper("improper", () -> x.bears(60));
            check.due("status 1", x.status(1), k);
            check.untimely("untimely", () -> x.soonest(0));
            check.due("status 2", x.status(2), k);
        }
        x.image();
        check.missing("missing", () -> x.strong(2));
        x.restore();
        check.due("no image keeps it", x.status(0), 31);
        x.road(0);
        check.due("nor a road", x.status(0) + x.status(1) + x.status(2), 91);
        RainWheel y = told();
        check.due("a fault is no refusal", Check.law(y, "x"), -9);
        check.due("nothing to undo is none", y.undo(), -1);
        check.due("nothing to restore is none", y.restore(), -1);
        check.due("two lines that are one are none", y.swap(0, 0), 0);
        for (int k = 0; k <= 30; k++) {
            y.feed(0, 0, 0, 0, 0);
        }
        check.due("a full tape is none", y.count(1), 600);
        check.due("none was refused", y.status(0) + y.status(1) + y.status(2), 0);
    }

    @Says(promise = 50, value = "0 IMAGES, 1 bytes of the TAPE, 2 changes that can be undone; NONE for others")
    void count() {
        for (int what : new int[] {-1, 3, 4, Integer.MIN_VALUE, Integer.MAX_VALUE}) {
            changesNothing("count " + what, Edges::rich, RainWheel.NONE, x -> x.count(what));
        }
        changesNothing("images", Edges::rich, 2, x -> x.count(0));
        changesNothing("bytes", Edges::rich, 20, x -> x.count(1));
        changesNothing("changes", Edges::rich, 4, x -> x.count(2));
        RainWheel x = changed(20);
        x.image();
        x.image();
        for (int k = 0; k < 30; k++) {
            x.feed(0, 0, 0, 0, 0);
        }
        check.due("all images", x.count(0), 3);
        check.due("all bytes", x.count(1), 600);
        check.due("all changes", x.count(2), 20);
        x.road(0);
        for (int what = 0; what < 3; what++) {
            check.due("none " + what, x.count(what), 0);
        }
    }
}
