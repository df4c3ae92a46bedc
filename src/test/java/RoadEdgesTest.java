/** The edges of a ROAD's text, from part ==== 1. of the Terms: each number, each count, each kind of FAULT. */
public final class RoadEdgesTest extends Edges {
    private static final Teller ROAD_TEXT = Check::road;
    private static final String DEED = "deed 1 0 1 0;";

    public static void main(String[] args) {
        new RoadEdgesTest().runAll();
    }

    private RainWheel road(String text, int due) {
        return sound(ROAD_TEXT, text, due);
    }

    private void faulty(String text, int kind, int place) {
        fault(ROAD_TEXT, text, kind, place);
    }

    private void number(String ahead, int low, int high, String behind, int due) {
        number(ROAD_TEXT, ahead, low, high, behind, due);
    }

    /** As many as there may be are taken; one more is FAULT 3 at its word, whatever stands behind the word. */
    private void atMost(int many, String clause, String word, int due) {
        String full = clause.repeat(many);
        road(full, due);
        road(full + blanks(3), due);
        faulty(full + clause, 3, full.length());
        faulty(full + blanks(2) + clause, 3, full.length() + 2);
        faulty(full + "load 5;" + clause, 3, full.length() + 7);
        faulty(full + word, 3, full.length());
        faulty(full + word + " 99 99 99 99;", 3, full.length());
        road(full + "load 5;", due);
    }

    @Says("A ROAD is a text of up to 600 bytes")
    void upTo600Bytes() {
        String text = "person 1;" + blanks(582) + "person 2;";
        check.due("600 bytes", text.length(), 600);
        RainWheel x = road(text, 0);
        check.due("the first of them", x.strong(0), 1);
        check.due("the last of them", x.strong(1), 2);
        Call more = y -> y.road(601);
        refused("601 bytes", IMPROPER, RoadEdgesTest::fullTape, more);
        RainWheel full = fullTape();
        check.due("the last byte is read", full.road(600), -9);
        check.due("at its place", full.fault(), 599);
        check.due("one less is sound", fullTape().road(599), 0);
    }

    /** 599 bytes of a sound road, and one that can't stand there. */
    private static RainWheel fullTape() {
        RainWheel wheel = new RainWheel();
        Check.feed(wheel, blanks(590) + "person 3;" + "#");
        return wheel;
    }

    @Says("{ CLAUSE \";\" }, at most 60")
    void atMost60Clauses() {
        check.due("none", road("", 0).told(0), 0);
        check.due("only blanks", road(blanks(20), 0).told(7), 20);
        String sixty = "load 7;".repeat(60);
        check.due("60", road(sixty, 0).told(7), 7);
        check.due("60 of many kinds", road("yard 1 2;stops 3;load 4;".repeat(20), 0).told(8), 3);
        check.due("60 and blanks", road(sixty + blanks(9), 0).told(7), 7);
        String[] words = {"person 1;", DEED, "needs 1 0;", "rain 1 1;", "yard 1 1;", "board 1;", "load 9;", "nut 1;", "stops 1;",
            "cause 1 1 1 1;", "loses 1;", "soft 1 1;"};
        for (String word : words) {
            faulty(sixty + word, 3, 420);
            faulty(sixty + blanks(4) + word, 3, 424);
        }
        faulty("load 7;".repeat(59) + ";", 1, 413);
        faulty(sixty + ";", 1, 420);
    }

    @Says("\"person\" S (PEOPLE, numbered from 0 on, 4 at most: STRONG S, 1 to 9)")
    void person() {
        number("person ", 1, 9, ";", 0);
        atMost(4, "person 2;", "person", 0);
        RainWheel x = road("person 1;person 9;person 3;person 4;", 0);
        int[] strong = {1, 9, 3, 4};
        for (int k = 0; k < 4; k++) {
            check.due("numbered from 0 on: " + k, x.strong(k), strong[k]);
        }
        check.due("4", x.told(0), 4);
    }

    @Says("\"deed\" M O H S (DEEDS likewise, 12: M MINUTES, 1 to 30")
    void deedMinutes() {
        number("deed ", 1, 30, " 0 1 0;", 1);
        check.due("1", road("deed 1 0 1 0;", 1).deed(0, 0), 1);
        check.due("30", road("deed 30 0 1 0;", 1).deed(0, 0), 30);
    }

    @Says("(DEEDS likewise, 12: ")
    void atMostTwelveDeeds() {
        atMost(12, DEED, "deed", 12);
        StringBuilder twelve = new StringBuilder();
        for (int k = 0; k < 12; k++) {
            twelve.append("deed ").append(k + 1).append(" 0 1 0;");
        }
        RainWheel x = road(twelve.toString(), 12);
        for (int k = 0; k < 12; k++) {
            check.due("numbered from 0 on: " + k, x.deed(k, 0), k + 1);
        }
    }

    @Says("O 1 out in the open, 0 not")
    void deedOut() {
        number("deed 1 ", 0, 1, " 1 0;", 1);
        check.due("0", road("deed 1 0 1 0;", 1).deed(0, 1), 0);
        check.due("1", road("deed 1 1 1 0;", 1).deed(0, 1), 1);
    }

    @Says("H HANDS, 1 or 2")
    void deedHands() {
        number("deed 1 0 ", 1, 2, " 0;", 1);
        check.due("1", road("deed 1 0 1 0;", 1).deed(0, 2), 1);
        check.due("2", road("deed 1 0 2 0;", 1).deed(0, 2), 2);
    }

    @Says("of S STRENGTH together, 0 to 18)")
    void deedStrength() {
        number("deed 1 0 1 ", 0, 18, ";", 1);
        check.due("0", road("deed 1 0 1 0;", 1).deed(0, 3), 0);
        check.due("18", road("deed 1 0 1 18;", 1).deed(0, 3), 18);
    }

    @Says("\"needs\" D E (DEED D needs E, both told ahead")
    void needsToldAhead() {
        faulty("needs 0 0;", 2, 6);
        faulty("needs 1 0;" + DEED + DEED, 2, 6);
        faulty(DEED + "needs 1 0;" + DEED, 2, 19);
        check.due("told just ahead", road(DEED + DEED + "needs 1 0;", 2).deed(1, 4), 1);
        for (int d = 1; d < 12; d++) {
            String told = DEED.repeat(d + 1);
            check.due("the latest", road(told + "needs " + d + " 0;", d + 1).deed(d, 4), 1);
            faulty(told + "needs " + (d + 1) + " 0;", 2, told.length() + 6);
            faulty(told + "needs " + d + " " + (d + 1) + ";", 2, told.length() + (d < 10 ? 8 : 9));
        }
        faulty(DEED.repeat(3) + "needs 4294967297 0;", 2, 45);
        faulty(DEED.repeat(3) + "needs -1 0;", 1, 45);
    }

    @Says("E less than D")
    void needsLess() {
        number(DEED.repeat(5) + "needs 3 ", 0, 2, ";", 5);
        number(DEED.repeat(12) + "needs 11 ", 0, 10, ";", 12);
        faulty(DEED + "needs 0 0;", 2, 21);
        faulty(DEED.repeat(3) + "needs 1 2;", 2, 47);
        check.due("the greatest", road(DEED.repeat(12) + "needs 11 10;", 12).deed(11, 4), 1024);
        check.due("the least", road(DEED.repeat(12) + "needs 11 0;", 12).deed(11, 4), 1);
    }

    @Says("the same twice is once")
    void needsTwice() {
        RainWheel x = road(DEED.repeat(3) + "needs 2 0;needs 2 0;needs 2 1;needs 2 0;", 3);
        check.due("bits", x.deed(2, 4), 3);
        check.due("ahead", x.ahead(2), 3);
        check.due("chain", x.chain(2), 2);
        check.due("not the other way", x.deed(0, 4), 0);
        check.due("48 times is once", road(DEED.repeat(2) + "needs 1 0;".repeat(48), 2).deed(1, 4), 1);
    }

    @Says("\"rain\" F T (6 at most: in MINUTES F to T, 0 to 240")
    void rain() {
        number("rain ", 0, 240, " 240;", 0);
        number("rain 0 ", 0, 240, ";", 0);
        atMost(6, "rain 1 1;", "rain", 0);
        RainWheel x = road("rain 3 5;rain 0 0;rain 240 240;", 0);
        int[] dry = {1, 2, 6, 7, 239};
        int[] wet = {0, 3, 4, 5, 240};
        for (int minute : dry) {
            check.due("dry " + minute, x.rains(minute) ? 1 : 0, 0);
        }
        for (int minute : wet) {
            check.due("wet " + minute, x.rains(minute) ? 1 : 0, 1);
        }
        RainWheel all = road("rain 0 240;", 0);
        for (int minute = 0; minute <= 240; minute++) {
            check.due("all of it: " + minute, all.rains(minute) ? 1 : 0, 1);
        }
        RainWheel six = road("rain 1 1;rain 3 3;rain 5 5;rain 7 7;rain 9 9;rain 11 11;", 0);
        for (int minute = 0; minute <= 12; minute++) {
            check.due("six rains: " + minute, six.rains(minute) ? 1 : 0, minute % 2);
        }
    }

    @Says("T no less than F)")
    void rainNoLess() {
        number("rain 9 ", 9, 240, ";", 0);
        number("rain 240 ", 240, 240, ";", 0);
        RainWheel x = road("rain 9 9;", 0);
        check.due("one minute", (x.rains(8) ? 4 : 0) + (x.rains(9) ? 2 : 0) + (x.rains(10) ? 1 : 0), 2);
    }

    @Says("\"yard\" Y B (the ground at YARD Y, 0 to 59, BEARS B, 0 to 20; 3 without)")
    void yard() {
        number("yard ", 0, 59, " 1;", 0);
        number("yard 1 ", 0, 20, ";", 0);
        RainWheel x = road("yard 0 0;yard 59 20;yard 7 4;", 0);
        check.due("the first", x.bears(0), 0);
        check.due("the last", x.bears(59), 20);
        check.due("one between", x.bears(7), 4);
        for (int yard : new int[] {1, 6, 8, 58}) {
            check.due("without: " + yard, x.bears(yard), 3);
        }
        check.due("of the road ahead nothing is left", tellAgain(x, "").bears(59), 3);
    }

    private RainWheel tellAgain(RainWheel wheel, String text) {
        check.due("told again '" + text + "'", Check.road(wheel, text), 0);
        return wheel;
    }

    @Says("\"board\" A (BOARDS likewise, 6: BROAD A, 1 to 9)")
    void board() {
        number("board ", 1, 9, ";", 0);
        atMost(6, "board 2;", "board", 0);
        RainWheel x = road("load 99;yard 0 0;board 1;board 2;board 3;board 4;board 5;board 9;", 0);
        int[] broad = {1, 2, 3, 4, 5, 9};
        for (int k = 0; k < 6; k++) {
            check.due("numbered from 0 on: " + k, x.sinks(0, 1 << k, 1), 99 / (1 + broad[k]));
        }
        check.due("6", x.told(2), 6);
    }

    @Says("\"load\" L (1 to 99; 20 without)")
    void load() {
        number("load ", 1, 99, ";", 0);
        check.due("1", road("load 1;", 0).told(7), 1);
        check.due("99", road("load 99;", 0).told(7), 99);
        RainWheel x = road("", 0);
        check.due("without", x.told(7), 20);
        check.due("it sinks by that", x.sinks(0, 0, 1), 17);
        check.due("of the road ahead nothing is left", tellAgain(road("load 50;", 0), "").told(7), 20);
    }

    @Says("\"nut\" R (NUTS likewise, 8: RUST R, 0 to 15)")
    void nut() {
        number("nut ", 0, 15, ";", 0);
        atMost(8, "nut 2;", "nut", 0);
        RainWheel x = road("nut 0;nut 1;nut 2;nut 3;nut 4;nut 5;nut 6;nut 15;", 0);
        for (int k = 0; k < 7; k++) {
            // By strength 8 a nut comes loose by 16 less its rust of 16.
            check.due("numbered from 0 on: " + k, 16 * x.tries(k, 1, 8, 0) / x.tries(k, 1, 8, 1), 16 - k);
        }
        check.due("15", x.tries(7, 1, 8, 1), 16);
        check.due("8", x.told(3), 8);
    }

    @Says("\"stops\" Q (by Q of 16 a car stops each MINUTE one waits, 0 to 16; 2 without)")
    void stops() {
        number("stops ", 0, 16, ";", 0);
        check.due("0: none stops", road("stops 0;", 0).waits(1, 10, 0, 0), 11);
        check.due("16: one stops", road("stops 16;", 0).waits(1, 10, 0, 0), 1);
        RainWheel x = road("", 0);
        check.due("without", x.told(8), 2);
        // 2 of 16 by 1, 14 of 16 by 11: 156 of 16 are 39 of 4.
        check.due("one waits by that", x.waits(1, 10, 0, 0), 39);
        check.due("of the road ahead nothing is left", tellAgain(road("stops 9;", 0), "").told(8), 2);
    }

    @Says("\"cause\" Q A B C (CAUSES likewise, 4: Q, 1 to 16, as likely")
    void causeLikely() {
        number("cause ", 1, 16, " 0 0 0;", 0);
        atMost(4, "cause 1 2 3 4;", "cause", 0);
        RainWheel x = road("cause 1 0 0 0;cause 16 0 0 0;cause 3 0 0 0;cause 4 0 0 0;", 0);
        int[] likely = {1, 16, 3, 4};
        for (int k = 0; k < 4; k++) {
            check.due("numbered from 0 on: " + k, 24 * x.odds(k, 0) / x.odds(k, 1), likely[k]);
        }
        check.due("4", x.told(4), 4);
    }

    @Says("SIGNS 0, 1, 2 by A, B, C of 16, 0 to 16)")
    void causeSigns() {
        number("cause 1 ", 0, 16, " 0 0;", 0);
        number("cause 1 0 ", 0, 16, " 0;", 0);
        number("cause 1 0 0 ", 0, 16, ";", 0);
        for (int sign = 0; sign < 3; sign++) {
            String signs = sign == 0 ? "16 0 0" : sign == 1 ? "0 16 0" : "0 0 16";
            RainWheel x = road("cause 1 " + signs + ";", 0);
            for (int seen = 0; seen < 3; seen++) {
                Check.book(x, seen + " 1;");
                check.due(signs + " with sign " + seen, x.likeliest(), seen == sign ? 0 : -1);
                Check.book(x, seen + " 0;");
                check.due(signs + " without sign " + seen, x.likeliest(), seen == sign ? -1 : 0);
            }
        }
    }

    @Says("\"loses\" Q (0 to 16; 0 without)")
    void loses() {
        number("loses ", 0, 16, ";", 0);
        String deed = "person 1;" + DEED;
        for (int q : new int[] {0, 16}) {
            RainWheel x = road(deed + "loses " + q + ";", 1);
            Check.plan(x, "0 0;");
            check.due("loses " + q, x.evenings(7, 40, 3), q == 0 ? 40 : 0);
        }
        RainWheel x = road(deed + "loses 16;", 1);
        Check.road(x, deed);
        Check.plan(x, "0 0;");
        check.due("without", x.evenings(7, 40, 3), 40);
    }

    @Says("\"soft\" P K (the spare: P, 0 to 99; it loses 1 behind each K miles, 1 to 9; 30 5 without)")
    void soft() {
        number("soft ", 0, 99, " 1;", 0);
        number("soft 0 ", 1, 9, ";", 0);
        check.due("0 must be pumped", road("soft 0 9;", 0).pumps(1), 1);
        check.due("99 is enough", road("soft 99 1;", 0).drive(30), 60);
        check.due("K 1: below 30 from the second mile on", road("soft 30 1;", 0).drive(2), 5);
        check.due("K 9: nine miles", road("soft 30 9;", 0).drive(9), 18);
        check.due("K 9: the tenth", road("soft 30 9;", 0).drive(10), 21);
        RainWheel x = road("", 0);
        check.due("without: five miles", x.drive(5), 10);
        check.due("without: the sixth", x.drive(6), 13);
        RainWheel y = tellAgain(road("soft 0 1;", 0), "");
        check.due("of the road ahead nothing is left", y.drive(6), 13);
    }

    @Says("of the same the last counts")
    void theLastCounts() {
        RainWheel x = road("load 9;load 8;yard 4 9;yard 4 2;yard 5 6;stops 16;stops 0;soft 99 1;soft 30 1;", 0);
        check.due("load", x.told(7), 8);
        check.due("yard 4", x.bears(4), 2);
        check.due("yard 5, another", x.bears(5), 6);
        check.due("stops", x.told(8), 0);
        check.due("soft", x.drive(2), 5);
        RainWheel y = road("person 1;" + DEED + "loses 16;loses 0;", 1);
        Check.plan(y, "0 0;");
        check.due("loses", y.evenings(0, 40, 3), 40);
        check.due("59 loads, then one", road("load 9;".repeat(59) + "load 3;", 0).told(7), 3);
    }

    @Says("Numbers: digits, as many as stand there")
    void digits() {
        check.due("599 bytes, noughts most of them", road("load" + "0".repeat(593) + "77;", 0).told(7), 77);
        faulty("load" + "0".repeat(590) + "777;", 2, 4);
        faulty("load " + "9".repeat(580) + ";", 2, 5);
        faulty("load 1 2;", 1, 7);
        faulty("load 1a;", 1, 6);
        faulty("load a1;", 1, 5);
        faulty("load 1.0;", 1, 6);
        faulty("load +1;", 1, 5);
        check.due("a number ends where digits end", road("load7;yard8 9;", 0).bears(8), 9);
    }

    @Says("WORDS: small letters, as many as stand there")
    void words() {
        faulty("loada 1;", 1, 0);
        faulty("loadz 1;", 1, 0);
        faulty("zload 1;", 1, 0);
        faulty("loadx 1;", 1, 0);
        faulty("loads 1;", 1, 0);
        faulty("loa 1;", 1, 0);
        faulty("lo ad 1;", 1, 0);
        faulty("Load 1;", 1, 0);
        faulty("loaD 1;", 1, 0);
        faulty("load_1;", 1, 4);
        faulty("load{1;", 1, 4);
        faulty("load`1;", 1, 4);
        faulty("loadload 1;", 1, 0);
        faulty("minutes 1;", 1, 0);
        check.due("a word ends where letters end", road("load1;", 0).told(7), 1);
    }

    @Says("blanks (32) may stand ahead of all these, and at the end")
    void blanksBetween() {
        RainWheel x = road(blanks(3) + "deed" + blanks(4) + "7" + blanks(2) + "1   2" + blanks(5) + "3" + blanks(6) + ";" + blanks(2), 1);
        int[] facts = {7, 1, 2, 3};
        for (int k = 0; k < 4; k++) {
            check.due("fact " + k, x.deed(0, k), facts[k]);
        }
        int[] noBlanks = {0, 9, 10, 13, 31, 33, 95, 127, 128, 160, 255};
        for (int sign : noBlanks) {
            faulty((char) sign + "load 1;", 1, 0);
            faulty("load" + (char) sign + "1;", 1, 4);
            faulty("load 1" + (char) sign + ";", 1, 6);
            faulty("load 1;" + (char) sign, 1, 7);
        }
    }

    @Says("FAULTS, the first from the left, at its first byte")
    void theFirstFault() {
        String people = "person 1;".repeat(4);
        faulty("x 1;load 0;", 1, 0);
        faulty("load 0;x 1;", 2, 5);
        faulty(people + "person 1;load 0;x", 3, 36);
        faulty(people + "load 0;person 1;", 2, 41);
        faulty(people + "load x;person 1;", 1, 41);
        faulty(people + "person 0;", 3, 36);
        faulty(people + "person x;", 3, 36);
        faulty("deed 0 9 9 99", 2, 5);
        faulty("deed 1 9 x 99", 2, 7);
        faulty("deed 1 0 x 99", 1, 9);
        faulty("load 0", 2, 5);
        faulty("load 0x", 2, 5);
        faulty("   load   000100;", 2, 10);
    }

    @Says("1 what can't stand there (at the length, if the text ends too early)")
    void endsTooEarly() {
        String[] clauses = {"person 1;", "deed 1 0 1 0;", "rain 1 2;", "yard 1 2;", "board 1;", "load 1;", "nut 1;", "stops 1;",
            "cause 1 2 3 4;", "loses 1;", "soft 1 2;"};
        for (String clause : clauses) {
            cutShort(ROAD_TEXT, clause, 1);
            String spaced = clause.replace(" ", "   ").replace(";", "  ;");
            cutShort(ROAD_TEXT, spaced, 1);
        }
        cutShort(ROAD_TEXT, DEED + DEED + "needs 1 0;", 27);
        faulty(";", 1, 0);
        faulty("load 1;;", 1, 7);
        faulty("load ;", 1, 5);
        faulty("load 1 load 1;", 1, 7);
        faulty("person 1 2;", 1, 9);
        faulty("7", 1, 0);
        RainWheel x = told();
        Check.feed(x, "load 44;load 55;");
        check.due("the length is n, whatever the tape holds behind it", x.road(6), -9);
        check.due("at n", x.fault(), 6);
    }

    @Says("2 a number that is none such (also a D, P, S twice)")
    void noSuchNumber() {
        faulty("load 0;", 2, 5);
        faulty("load 100;", 2, 5);
        faulty("load    100   ;", 2, 8);
        fault(Check::plan, "0 0;0 1;", 2, 4);
        fault(Check::plan, "0 0;1 1;2 0 1;0 0;", 2, 14);
        fault(Check::plan, "0 1 1;", 2, 4);
        fault(Check::book, "2 1;2 1;", 2, 4);
        fault(Check::book, "2 1;0 0;  2 0;", 2, 10);
    }

    @Says("3 a CLAUSE, PERSON, DEED, rain, BOARD, NUT or CAUSE too many (at its word)")
    void tooMany() {
        String mixed = "person 1;".repeat(4) + DEED.repeat(12) + "rain 1 1;".repeat(6) + "board 1;".repeat(6) + "nut 1;".repeat(8)
            + "cause 1 1 1 1;".repeat(4);
        road(mixed, 12);
        for (String word : new String[] {"person", "deed", "rain", "board", "nut", "cause"}) {
            faulty(mixed + word + " 1 1 1 1;", 3, mixed.length());
            faulty(mixed + blanks(1) + word, 3, mixed.length() + 1);
        }
        road(mixed + "needs 1 0;load 1;stops 1;loses 1;soft 1 1;yard 1 1;", 12);
        faulty(mixed + "load 1;".repeat(20) + "load 1;", 3, mixed.length() + 140);
        road(mixed + "load 1;".repeat(20), 12);
    }

    @Says("of one the least")
    void ofOneTheLeast() {
        String sixty = "load 7;".repeat(60);
        faulty(sixty + "loads 1;", 1, 420);
        faulty(sixty + "x", 1, 420);
        faulty(sixty + "5", 1, 420);
        faulty(sixty + "(", 1, 420);
        fault(Check::law, "((((((x", 1, 6);
        fault(Check::law, "((((((mosts[1,2]", 1, 6);
    }
}
