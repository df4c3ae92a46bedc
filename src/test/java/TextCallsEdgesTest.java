import java.util.NoSuchElementException;

/** The edges of promises 1 to 13: a new object, the tape, the calls that take texts, and what was told. */
public final class TextCallsEdgesTest extends Edges {
    public static void main(String[] args) {
        new TextCallsEdgesTest().runAll();
    }

    // ---- promise 1 ----

    @Says(promise = 1, value = "A ROAD without CLAUSES")
    void aNewObject() {
        RainWheel told = rich();
        told.road(0);
        Portrait due = Portrait.of(told).but(Portrait.MISSING, 0).but(Portrait.IMPROPER, 0);
        same("a new object is as one that was told an empty road", new RainWheel(), due);
        RainWheel x = new RainWheel();
        for (int what = 0; what < 7; what++) {
            check.due("none of " + what, x.told(what), 0);
        }
        check.due("load", x.told(7), 20);
        check.due("stops", x.told(8), 2);
        check.due("no fault", x.fault(), RainWheel.NONE);
        for (int what = 0; what < 3; what++) {
            check.due("status " + what, x.status(what), 0);
            check.due("count " + what, x.count(what), 0);
        }
        check.due("nothing to undo", x.undo(), -1);
        check.due("no image", x.restore(), -1);
        check.due("no span", x.span(), 0);
        check.due("nobody gets wet", x.umbrella(), RainWheel.NONE);
        check.due("nothing is urgent", x.urgent(), 0);
        check.due("the soonest of none", x.soonest(0), 0);
        check.due("no nuts", x.easiest(0), RainWheel.NONE);
        check.due("no causes", x.likeliest(), RainWheel.NONE);
    }

    @Says(promise = 1, value = "A ROAD without CLAUSES")
    void twoObjectsShareNothing() {
        RainWheel one = rich();
        same("another", new RainWheel(), Portrait.of(new RainWheel()));
        RainWheel other = new RainWheel();
        other.feed(1, 2, 3, 4, 5);
        same("the first", one, Portrait.of(rich()));
    }

    // ---- promise 2 ----

    @Says(promise = 2, value = "Twenty bytes come on the TAPE, of each number the highest first")
    void highestFirst() {
        // A byte that can't stand there, in each of the twenty places: the fault tells where it came.
        for (int place = 0; place < 20; place++) {
            for (int sign : new int[] {0, 1, 127, 128, 255}) {
                int[] numbers = {0x20202020, 0x20202020, 0x20202020, 0x20202020, 0x20202020};
                int shift = 24 - 8 * (place % 4);
                numbers[place / 4] = numbers[place / 4] & ~(255 << shift) | sign << shift;
                RainWheel x = new RainWheel();
                x.feed(numbers[0], numbers[1], numbers[2], numbers[3], numbers[4]);
                check.due("a byte " + sign + " in place " + place, x.road(20), -9);
                check.due("is found there", x.fault(), place);
            }
        }
        RainWheel x = new RainWheel();
        // "cause 1 2 3 4;nut 5;"
        x.feed(0x63617573, 0x65203120, 0x32203320, 0x343b6e75, 0x7420353b);
        check.due("a text of twenty", x.road(20), 0);
        check.due("a cause", x.told(4), 1);
        check.due("a nut", x.told(3), 1);
    }

    @Says(promise = 2, value = "how many there are; NONE, doing nothing, if there would be more than 600")
    void nothingBeyond600() {
        RainWheel x = new RainWheel();
        for (int k = 1; k <= 30; k++) {
            check.due("feed " + k, x.feed(-1, -1, -1, -1, -1), 20 * k);
            check.due("there are", x.count(1), 20 * k);
        }
        for (int k = 0; k < 3; k++) {
            check.due("no more", x.feed(0x20202020, 0x20202020, 0x20202020, 0x20202020, 0x20202020), RainWheel.NONE);
            check.due("still", x.count(1), 600);
        }
        check.due("what was there first is there", x.road(1), -9);
        changesNothing("feed on a full tape", TextCallsEdgesTest::fullTape, RainWheel.NONE, y -> y.feed(0, -1, 1, 2, 3));
        RainWheel y = fullTape();
        y.feed(0, 0, 0, 0, 0);
        check.due("all 600 are as they were", y.road(600), 0);
        check.due("also the last", y.told(7), 33);
        check.due("also the first", y.told(8), 7);
        check.due("room again", y.feed(0, 0, 0, 0, 0), 20);
    }

    private static RainWheel fullTape() {
        RainWheel wheel = told();
        Check.feed(wheel, "stops 7;" + blanks(584) + "load 33;");
        return wheel;
    }

    // ---- promise 3 ----

    @Says(promise = 3, value = "The first n bytes of the TAPE (empty then) are the ROAD")
    void theFirstNBytes() {
        for (int n = 0; n <= 20; n++) {
            RainWheel x = new RainWheel();
            Check.feed(x, "load 1;load 2;      ");
            int due = n == 0 || n == 7 || n >= 14 ? 0 : -9;
            check.due("the first " + n, x.road(n), due);
            check.due("the load", x.told(7), n >= 14 ? 2 : n == 7 ? 1 : 20);
            check.due("the tape is empty then", x.count(1), 0);
            check.improper("nothing is left of it", () -> x.road(1));
            check.due("but nothing can be taken", x.road(0), 0);
        }
    }

    @Says(promise = 3, value = "(no LAW, PLAN, BOOK, IMAGES, nothing to undo): how many DEEDS")
    void aNewRoadClearsAll() {
        for (String road : new String[] {"", ROAD, "deed 1 0 1 0;".repeat(12)}) {
            RainWheel fresh = new RainWheel();
            int deeds = Check.road(fresh, road);
            check.due("how many deeds", deeds, road.isEmpty() ? 0 : road.equals(ROAD) ? 4 : 12);
            RainWheel y = richWithoutTape();
            check.due("as many", Check.road(y, road), deeds);
            check.due("no law", y.would(9, 1, 1, 1, 1, 1), 9);
            check.due("no plan", y.told(5), 0);
            check.due("no book", y.told(6), 0);
            check.due("no images", y.count(0), 0);
            check.due("nothing to undo", y.count(2), 0);
            check.due("none is undone", y.undo(), -1);
            check.due("none is restored", y.restore(), -1);
            same("as a new object that was told it", y, Portrait.of(fresh).but(Portrait.MISSING, 1).but(Portrait.IMPROPER, 1));
        }
    }

    @Says(promise = 3, value = "The first n bytes of the TAPE (empty then) are the ROAD")
    void nothingOfRoadsBefore() {
        StringBuilder full = new StringBuilder("person 9;".repeat(4) + "deed 3 1 2 4;".repeat(5)
            + "needs 1 0;needs 2 1;needs 4 3;rain 0 240;");
        for (int yard = 0; yard < 10; yard++) {
            full.append("yard ").append(yard).append(" 20;");
        }
        full.append("board 9;".repeat(6)).append("nut 0;".repeat(8)).append("cause 9 8 16 8;cause 9 8 0 8;".repeat(2)).append("load 9;stops 9;loses 9;soft 9 9;");
        String few = "person 1;" + "deed 1 0 1 0;".repeat(4) + "board 1;nut 1;cause 1 1 1 1;";
        // Again and again, sound or not: of those before, nothing is left in the one that is told then.
        for (int rounds = 1; rounds <= 3; rounds++) {
            for (String tail : new String[] {"", "x", "load 0;"}) {
                RainWheel x = new RainWheel();
                for (int k = 0; k < rounds; k++) {
                    check.due("a full road", Check.road(x, full + tail), tail.isEmpty() ? 5 : tail.equals("x") ? -9 : -8);
                }
                check.due("one with few", Check.road(x, few), 4);
                same("as if it were the first", x, Portrait.of(toldRoad(few)));
                RainWheel y = new RainWheel();
                for (int k = 0; k < rounds; k++) {
                    Check.road(y, full + tail);
                    Check.road(y, few);
                }
                check.due("nothing to know by a cause of before", y.ask(), 0);
                check.due("nor is one likely", y.likeliest(), 0);
                check.due("no nut of before", y.easiest(1), 0);
                for (int yard = 0; yard < 60; yard++) {
                    check.due("bears " + yard, y.bears(yard), 3);
                }
                for (int minute = 0; minute <= 240; minute++) {
                    check.holds("dry in " + minute, !y.rains(minute));
                }
                for (int deed = 0; deed < 4; deed++) {
                    check.due("needs nothing: " + deed, y.deed(deed, 4) + y.ahead(deed), 0);
                }
            }
        }
    }

    private static RainWheel toldRoad(String road) {
        return Check.told(road, "");
    }

    @Says(promise = 3, value = "or the FAULT less 10 (all stays)")
    void aFaultyRoadKeepsAll() {
        String[] texts = {"load", "load 0;", "person 1;".repeat(5), "deed 1 0 1 0;".repeat(13), ROAD + "x", "load 7;".repeat(61)};
        int[] answers = {-9, -8, -7, -7, -9, -7};
        int[] places = {4, 5, 36, 156, ROAD.length(), 420};
        for (int k = 0; k < texts.length; k++) {
            String text = texts[k];
            RainWheel x = richWithoutTape();
            check.due("'" + text + "'", Check.road(x, text), answers[k]);
            RainWheel twin = richWithoutTape();
            same("all stays", x, Portrait.of(twin).but(Portrait.FAULT, places[k]));
        }
    }

    @Says(promise = 3, value = "IllegalArgumentException: n is not 0 to the TAPE's bytes (it stays)")
    void roadRefused() {
        for (int n : new int[] {-1, 21, 600, Integer.MIN_VALUE, Integer.MAX_VALUE}) {
            improper("road " + n, x -> x.road(n));
        }
        refused("road 1 of none", IMPROPER, RainWheel::new, x -> x.road(1));
        RainWheel x = rich();
        check.improper("one more than there are", () -> x.road(21));
        check.due("the tape stays", x.count(1), 20);
        check.due("it still holds its text", x.book(8), 2);
        RainWheel y = rich();
        check.due("all there are", y.road(20), -9);
        check.due("none of those there are", rich().road(0), 0);
    }

    // ---- promises 4 to 6 ----

    /** A wheel with a long tape, more of it than any text but a road takes: a law of a byte, then blanks. */
    private static RainWheel longTape() {
        RainWheel wheel = richWithoutTape();
        Check.feed(wheel, "8" + blanks(199));
        return wheel;
    }

    @Says(promise = 4, value = "Likewise the LAW (n to 150): 1")
    void law() {
        for (int n : new int[] {-1, 151, 200, 201, Integer.MIN_VALUE, Integer.MAX_VALUE}) {
            refused("law " + n, IMPROPER, TextCallsEdgesTest::longTape, x -> x.law(n));
        }
        for (int n : new int[] {-1, 21, 150}) {
            improper("law " + n + " of 20", x -> x.law(n));
        }
        for (int n : new int[] {1, 150}) {
            RainWheel x = longTape();
            check.due("law " + n, x.law(n), 1);
            check.due("the law", x.would(1, 1, 1, 1, 1, 1), 8);
            check.due("the tape is empty then", x.count(1), 0);
            check.due("the plan stays", x.told(5), 3);
            check.due("the book", x.told(6), 1);
            check.due("the images", x.count(0), 2);
            check.due("what can be undone", x.count(2), 4);
        }
        RainWheel x = longTape();
        check.due("an empty law ends too early", x.law(0), -9);
        check.due("at 0", x.fault(), 0);
        check.due("the tape is empty then", x.count(1), 0);
        check.due("the law stays", x.would(7, 1, 1, 1, 1, 1), 8);
        RainWheel same = told();
        Check.law(same, "minutes+rain");
        same("the same law again changes nothing", same, Portrait.of(told()));
    }

    @Says(promise = 5, value = "Likewise the PLAN (n to 150; nothing to undo): how many lines")
    void plan() {
        for (int n : new int[] {-1, 151, 200, 201, Integer.MIN_VALUE, Integer.MAX_VALUE}) {
            refused("plan " + n, IMPROPER, TextCallsEdgesTest::longTape, x -> x.plan(n));
        }
        for (int n : new int[] {-1, 21, 150}) {
            improper("plan " + n + " of 20", x -> x.plan(n));
        }
        RainWheel x = richWithoutTape();
        check.due("three lines", Check.plan(x, "3 0;0 1;2 1 2;"), 3);
        check.due("nothing to undo", x.count(2), 0);
        check.due("none is undone", x.undo(), -1);
        check.due("images stay", x.count(0), 2);
        check.due("the book stays", x.told(6), 1);
        check.due("the law stays", x.would(7, 1, 1, 1, 1, 1), 8);
        check.due("the tape is empty then", x.count(1), 0);
        check.due("the latest image", x.restore(), 1);
        check.due("with its lines", x.told(5), 3);
        check.due("and its changes", x.count(2), 3);
        RainWheel y = longTape();
        check.due("no lines", y.plan(0), 0);
        check.due("told", y.told(5), 0);
        check.due("nothing to undo", y.undo(), -1);
        check.due("the tape is empty then", y.count(1), 0);
    }

    @Says(promise = 5, value = "Likewise the PLAN (n to 150; nothing to undo)")
    void aFaultyPlanKeepsAll() {
        String[] texts = {"0", "0 0;0 1;", "4 0;", "0 3;", "0 0;1 1;3 0;2 0 1"};
        int[] answers = {-9, -8, -8, -8, -9};
        int[] places = {1, 4, 0, 2, 17};
        for (int k = 0; k < texts.length; k++) {
            RainWheel x = richWithoutTape();
            check.due("'" + texts[k] + "'", Check.plan(x, texts[k]), answers[k]);
            RainWheel twin = richWithoutTape();
            same("all stays", x, Portrait.of(twin).but(Portrait.FAULT, places[k]));
        }
    }

    @Says(promise = 6, value = "Likewise the BOOK (n to 40): how many lines")
    void book() {
        for (int n : new int[] {-1, 41, 150, 200, 201, Integer.MIN_VALUE, Integer.MAX_VALUE}) {
            refused("book " + n, IMPROPER, TextCallsEdgesTest::longTape, x -> x.book(n));
        }
        for (int n : new int[] {-1, 21, 40}) {
            improper("book " + n + " of 20", x -> x.book(n));
        }
        int[] lines = {0, 1, 2, 3};
        for (int many : lines) {
            RainWheel x = richWithoutTape();
            check.due(many + " lines", Check.book(x, "2 1;0 0;1 1;".substring(0, 4 * many)), many);
            check.due("told", x.told(6), many);
            check.due("the plan stays", x.told(5), 3);
            check.due("what can be undone stays", x.count(2), 4);
            check.due("the images stay", x.count(0), 2);
            check.due("the law stays", x.would(7, 1, 1, 1, 1, 1), 8);
            check.due("the tape is empty then", x.count(1), 0);
        }
        RainWheel x = richWithoutTape();
        check.due("a faulty one", Check.book(x, "1 1;1 0;"), -8);
        RainWheel twin = richWithoutTape();
        same("all stays", x, Portrait.of(twin).but(Portrait.FAULT, 4));
    }

    // ---- promise 7 ----

    @Says(promise = 7, value = "The place of the FAULT of the latest text; NONE without")
    void placeOfTheFault() {
        RainWheel x = new RainWheel();
        check.due("no text yet", x.fault(), RainWheel.NONE);
        Check.road(x, "load 1;load");
        check.due("of a road", x.fault(), 11);
        check.due("asked again", x.fault(), 11);
        check.improper("a refused text is none", () -> x.road(1));
        check.due("it stays", x.fault(), 11);
        x.feed(0, 0, 0, 0, 0);
        check.improper("nor is one that is too long", () -> x.book(41));
        check.due("it stays, too", x.fault(), 11);
        x.told(0);
        check.due("other calls are no texts", x.fault(), 11);
        check.due("the first byte", x.law(20), -9);
        check.due("0 is a place", x.fault(), 0);
        Check.book(x, "0 1;");
        check.due("the latest has none", x.fault(), RainWheel.NONE);
        Check.plan(x, "  5");
        check.due("of a plan", x.fault(), 2);
        Check.law(x, "5");
        check.due("a sound law", x.fault(), RainWheel.NONE);
        Check.book(x, blanks(39) + "x");
        check.due("of a book, the last of 40", x.fault(), 39);
        Check.plan(x, "");
        check.due("a sound plan", x.fault(), RainWheel.NONE);
        Check.road(x, blanks(599) + "x");
        check.due("the last of 600", x.fault(), 599);
        Check.road(x, blanks(593) + "load 77");
        check.due("the length itself", x.fault(), 600);
        x.road(0);
        check.due("a sound road", x.fault(), RainWheel.NONE);
        RainWheel y = told();
        Check.law(y, "x");
        y.image();
        Check.law(y, "1");
        y.restore();
        check.due("no image keeps it", y.fault(), RainWheel.NONE);
    }

    // ---- promises 8 to 13 ----

    @Says(promise = 8, value = {"0 PEOPLE, 1 DEEDS, 2 BOARDS, 3 NUTS, 4 CAUSES, 5 lines of the PLAN, 6 of the BOOK, 7 the LOAD, 8 \"stops\"",
        "IllegalArgumentException: another what (so below)"})
    void toldOfEach() {
        range("told", 0, 8, (x, what) -> x.told(what));
        int[] due = {3, 4, 2, 2, 2, 3, 1, 21, 4};
        RainWheel x = rich();
        for (int what = 0; what < due.length; what++) {
            check.due("told " + what, x.told(what), due[what]);
        }
        RainWheel full = Check.told("person 1;".repeat(4) + "deed 1 0 1 0;".repeat(12) + "board 1;".repeat(6) + "nut 1;".repeat(8)
            + "cause 1 1 1 1;".repeat(4) + "load 99;stops 16;", "0 0;1 0;2 0;3 0;4 0;5 0;6 0;7 0;8 0;9 0;10 0;11 0;");
        Check.book(full, "0 0;1 0;2 0;");
        int[] most = {4, 12, 6, 8, 4, 12, 3, 99, 16};
        for (int what = 0; what < most.length; what++) {
            check.due("all there may be " + what, full.told(what), most[what]);
        }
    }

    @Says(promise = 9, value = "Of a DEED: 0 M, 1 O, 2 H, 3 S, 4 what it needs (bits)")
    void deedWhat() {
        range("deed what", 0, 4, (x, what) -> x.deed(3, what));
        int[][] due = {{3, 0, 1, 0, 0}, {5, 1, 1, 5, 1}, {4, 1, 2, 9, 2}, {2, 0, 1, 0, 1}};
        RainWheel x = rich();
        for (int deed = 0; deed < 4; deed++) {
            for (int what = 0; what < 5; what++) {
                check.due("deed " + deed + " " + what, x.deed(deed, what), due[deed][what]);
            }
        }
        StringBuilder needs = new StringBuilder("deed 1 0 1 0;".repeat(12));
        for (int needed = 0; needed < 11; needed++) {
            needs.append("needs 11 ").append(needed).append(';');
        }
        check.due("all bits", Check.told(needs.toString(), "").deed(11, 4), 2047);
    }

    @Says(promise = 9, value = "NoSuchElementException: no such DEED, PERSON, NUT, CAUSE, line (so below, ahead of others)")
    void missingAheadOfOthers() {
        elements("deed", 4, (x, deed) -> x.deed(deed, 0));
        missing("deed 4 by what 5", x -> x.deed(4, 5));
        missing("deed -1 by what -1", x -> x.deed(-1, -1));
        missing("line 3 by what 5", x -> x.line(3, 5));
        missing("nut 2 by wrong others", x -> x.tries(2, 8, 19, 2));
        missing("nut 2 by wrong n", x -> x.tries(2, -1, 0, 0));
        missing("half of nut 2 by wrong s", x -> x.half(2, 19));
        missing("cause 2 by wrong part", x -> x.odds(2, 2));
        missing("hand of line 3 to nobody", x -> x.hand(3, 0));
        missing("hand of line -1 to all", x -> x.hand(-1, -1));
        refused("deed 0 of none by what 9", NO_SUCH, RainWheel::new, x -> x.deed(0, 9));
        refused("nut 0 of none by wrong others", NO_SUCH, RainWheel::new, x -> x.tries(0, 9, 99, 9));
        refused("cause 0 of none by wrong part", NO_SUCH, RainWheel::new, x -> x.odds(0, 9));
        refused("hand of line 0 of none", NO_SUCH, RainWheel::new, x -> x.hand(0, 0));
        RainWheel full = Check.told("deed 1 0 1 0;".repeat(12), "");
        check.due("the twelfth", full.deed(11, 0), 1);
        check.missing("a thirteenth", () -> full.deed(12, 0));
    }

    @Says(promise = 10, value = "What STRENGTH a PERSON has")
    void strongPeople() {
        elements("strong", 3, (x, person) -> x.strong(person));
        RainWheel x = Check.told("person 1;person 9;person 2;person 8;", "");
        int[] due = {1, 9, 2, 8};
        for (int person = 0; person < 4; person++) {
            check.due("strong " + person, x.strong(person), due[person]);
        }
        check.missing("a fifth", () -> x.strong(4));
    }

    @Says(promise = 11, value = "What the ground BEARS at a YARD (0 to 59)")
    void bearsAtYards() {
        range("bears", 0, 59, (x, yard) -> x.bears(yard));
        RainWheel x = Check.told("yard 0 20;yard 59 0;", "");
        for (int yard = 0; yard < 60; yard++) {
            check.due("bears " + yard, x.bears(yard), yard == 0 ? 20 : yard == 59 ? 0 : 3);
        }
        check.improper("another yard (so below)", () -> new RainWheel().bears(60));
    }

    @Says(promise = 12, value = "Whether it rains in a MINUTE (0 to 240)")
    void rainsInMinutes() {
        range("rains", 0, 240, (x, minute) -> x.rains(minute) ? 1 : 0);
        RainWheel x = Check.told("rain 0 0;rain 5 9;rain 8 12;rain 13 13;rain 15 15;rain 239 240;", "");
        for (int minute = 0; minute <= 240; minute++) {
            boolean wet = minute == 0 || minute >= 5 && minute <= 13 || minute == 15 || minute >= 239;
            check.due("minute " + minute, x.rains(minute) ? 1 : 0, wet ? 1 : 0);
        }
    }

    @Says(promise = 13, value = "LASTS by the LAW for such minutes (1 to 30), hands (1, 2), strong (0 to 18), rain (0, 1), minute (0 to 240), out (0, 1)")
    void wouldForSuch() {
        range("would minutes", 1, 30, (x, v) -> x.would(v, 1, 0, 0, 0, 0));
        range("would hands", 1, 2, (x, v) -> x.would(1, v, 0, 0, 0, 0));
        range("would strong", 0, 18, (x, v) -> x.would(1, 1, v, 0, 0, 0));
        range("would rain", 0, 1, (x, v) -> x.would(1, 1, 0, v, 0, 0));
        range("would minute", 0, 240, (x, v) -> x.would(1, 1, 0, 0, v, 0));
        range("would out", 0, 1, (x, v) -> x.would(1, 1, 0, 0, 0, v));
        String[] facts = {"minutes", "hands", "strong", "rain", "minute/3", "out"};
        int[] greatest = {30, 2, 18, 1, 80, 1};
        int[] least = {1, 1, 0, 0, 0, 0};
        for (int k = 0; k < 6; k++) {
            RainWheel x = told();
            Check.law(x, facts[k] + "+5");
            check.due("the greatest: " + facts[k], x.would(30, 2, 18, 1, 240, 1), greatest[k] + 5);
            check.due("the least: " + facts[k], x.would(1, 1, 0, 0, 0, 0), least[k] + 5);
        }
        RainWheel x = told();
        Check.law(x, "rain*50+out*7");
        check.due("rain as it is given, also where it is not out", x.would(1, 1, 0, 1, 0, 0), 50);
        check.due("and where it is out, but dry", x.would(1, 1, 0, 0, 3, 1), 7);
        Check.law(x, "0-minutes");
        check.due("1 at least", x.would(30, 1, 0, 0, 0, 0), 1);
        Check.law(x, "minutes*4");
        check.due("99 at most", x.would(30, 1, 0, 0, 0, 0), 99);
        check.due("just below", x.would(24, 1, 0, 0, 0, 0), 96);
    }

    @Says(promise = 9, value = "NoSuchElementException: no such DEED, PERSON, NUT, CAUSE, line")
    void aRefusalIsWhatItsNameSays() {
        RainWheel x = new RainWheel();
        boolean caught = false;
        try {
            x.strong(0);
        } catch (NoSuchElementException e) {
            caught = e.getClass() == NoSuchElementException.class;
        }
        check.holds("no class below NoSuchElementException", caught);
    }
}
