/** The edges of a PLAN's and a BOOK's text, from part ==== 1. of the Terms. */
public final class PlanAndBookEdgesTest extends Edges {
    private static final Teller PLAN_TEXT = Check::plan;
    private static final Teller BOOK_TEXT = Check::book;

    public static void main(String[] args) {
        new PlanAndBookEdgesTest().runAll();
    }

    private void faultyPlan(String text, int kind, int place) {
        fault(PLAN_TEXT, text, kind, place);
    }

    private void faultyBook(String text, int kind, int place) {
        fault(BOOK_TEXT, text, kind, place);
    }

    /** Bytes on the tape: so many blanks, a text, one byte that can't stand there, and more blanks. */
    private static RainWheel onTape(int ahead, String text) {
        RainWheel wheel = Check.told(ROAD, "");
        Check.feed(wheel, blanks(ahead) + text + "#" + blanks(30));
        return wheel;
    }

    @Says("A PLAN is one of up to 150 bytes")
    void planOf150Bytes() {
        refused("151 bytes", IMPROPER, () -> onTape(145, "0 0;"), x -> x.plan(151));
        RainWheel x = onTape(145, "0 0;");
        check.due("the 150th byte is read", x.plan(150), -9);
        check.due("at its place", x.fault(), 149);
        check.due("one less is sound", onTape(145, "0 0;").plan(149), 1);
        check.due("150 sound bytes", onTape(146, "0 0;").plan(150), 1);
        check.due("none", sound(PLAN_TEXT, "", 0).told(5), 0);
        check.due("only blanks", sound(PLAN_TEXT, blanks(150), 0).told(5), 0);
    }

    @Says("{ D P \";\" | D P P \";\" }, 12 lines at most, no D twice")
    void twelveLines() {
        StringBuilder twelve = new StringBuilder();
        for (int k = 11; k >= 0; k--) {
            twelve.append(k).append(" 0 ").append(1 + k % 2).append(';');
        }
        RainWheel x = Check.told("person 1;person 1;person 1;" + "deed 1 0 2 0;".repeat(12), "");
        check.due("12 lines", Check.plan(x, twelve.toString()), 12);
        for (int k = 0; k < 12; k++) {
            check.due("deed of line " + k, x.line(k, 0), 11 - k);
            check.due("people of line " + k, x.line(k, 1), k % 2 == 0 ? 5 : 3);
        }
        for (String more : new String[] {"0 0;", "11 1;", "5 0 1;", "12 0;", "99 0;"}) {
            check.due("a 13th '" + more + "'", Check.plan(x, twelve + more), -8);
            check.due("at its number", x.fault(), twelve.length());
            check.due("the plan stays", x.told(5), 12);
        }
        check.due("a 13th that is no number", Check.plan(x, twelve + ";"), -9);
        check.due("at its place", x.fault(), twelve.length());
        faultyPlan("0 0;0 1;", 2, 4);
        faultyPlan("0 0;1 1;  00 1;", 2, 10);
        faultyPlan("0 0;0", 2, 4);
        faultyPlan("0 0;0 x", 2, 4);
    }

    @Says("DEED D by one PERSON or two (not one twice)")
    void oneOrTwoPeople() {
        check.due("one", sound(PLAN_TEXT, "0 2;", 1).line(0, 1), 4);
        check.due("two", sound(PLAN_TEXT, "0 2 0;", 1).line(0, 1), 5);
        check.due("two, the other way", sound(PLAN_TEXT, "0 0 2;", 1).line(0, 1), 5);
        for (int person = 0; person < 3; person++) {
            faultyPlan("0 " + person + " " + person + ";", 2, 4);
            faultyPlan("0 " + person + "  0" + person + ";", 2, 5);
        }
        faultyPlan("0;", 1, 1);
        faultyPlan("0 0 1 2;", 1, 6);
        faultyPlan("0 0 1 1;", 1, 6);
        number(PLAN_TEXT, "", 0, 3, " 1;", 1);
        number(PLAN_TEXT, "2 ", 0, 2, ";", 1);
        number(PLAN_TEXT, "2 1 ", 2, 2, ";", 1);
        number(PLAN_TEXT, "2 2 ", 0, 1, ";", 1);
        RainWheel none = Check.fresh();
        check.due("no deeds", Check.plan(none, "0 0;"), -8);
        check.due("at the deed", none.fault(), 0);
        RainWheel nobody = Check.told("deed 1 0 1 0;", "");
        check.due("nobody", Check.plan(nobody, "0 0;"), -8);
        check.due("at the person", nobody.fault(), 2);
        RainWheel four = Check.told("person 1;person 2;person 3;person 4;deed 1 0 2 0;", "0 3 2;");
        check.due("the last two of four", four.line(0, 1), 12);
        check.due("a fifth", Check.plan(four, "0 4;"), -8);
    }

    @Says("1 what can't stand there (at the length, if the text ends too early)")
    void endsTooEarly() {
        cutShort(PLAN_TEXT, "0 1 2;", 1);
        cutShort(PLAN_TEXT, "  0   1   2  ;", 3);
        cutShort(BOOK_TEXT, "0 1;", 1);
        cutShort(BOOK_TEXT, "  0   1  ;", 3);
        for (String text : new String[] {";", "x 0;", "(", ",", "\t0 0;", "-0 0;"}) {
            faultyPlan(text, 1, 0);
            faultyBook(text, 1, 0);
        }
        faultyPlan("0 0,1 1;", 1, 3);
        faultyPlan("0 0;;", 1, 4);
        faultyPlan("0 0 x;", 1, 4);
        faultyPlan("0,0;", 1, 1);
        faultyBook("0 0;;", 1, 4);
        faultyBook("0 0 0;", 1, 4);
        faultyBook("0,0;", 1, 1);
        faultyBook("0 ;", 1, 2);
    }

    @Says("A BOOK is one of up to 40 bytes")
    void bookOf40Bytes() {
        refused("41 bytes", IMPROPER, () -> onTape(35, "0 0;"), x -> x.book(41));
        RainWheel x = onTape(35, "0 0;");
        check.due("the 40th byte is read", x.book(40), -9);
        check.due("at its place", x.fault(), 39);
        check.due("one less is sound", onTape(35, "0 0;").book(39), 1);
        check.due("40 sound bytes", onTape(36, "0 0;").book(40), 1);
        check.due("none", sound(BOOK_TEXT, "", 0).told(6), 0);
        check.due("only blanks", sound(BOOK_TEXT, blanks(40), 0).told(6), 0);
    }

    @Says("{ S V \";\" }, 3 lines at most, no S twice")
    void threeLines() {
        check.due("three", sound(BOOK_TEXT, "2 0;0 1;1 1;", 3).told(6), 3);
        check.due("three and blanks", sound(BOOK_TEXT, "2 0;0 1;1 1;" + blanks(28), 3).told(6), 3);
        for (int sign = 0; sign < 4; sign++) {
            faultyBook("2 0;0 1;1 1;" + sign + " 1;", 2, 12);
            faultyBook("2 0;0 1;1 1; " + sign, 2, 13);
        }
        faultyBook("2 0;0 1;1 1;;", 1, 12);
        for (int sign = 0; sign < 3; sign++) {
            faultyBook(sign + " 0;" + sign + " 0;", 2, 4);
            faultyBook(sign + " 0;" + sign + " 1;", 2, 4);
            faultyBook(sign + " 0;" + (sign + 1) % 3 + " 0; " + sign, 2, 9);
        }
    }

    @Says("SIGN S (0 to 2) was seen (V 1) or not (0)")
    void signs() {
        number(BOOK_TEXT, "", 0, 2, " 1;", 1);
        number(BOOK_TEXT, "1 ", 0, 1, ";", 1);
        RainWheel x = Check.told("cause 1 16 16 16;cause 1 0 0 0;", "");
        for (int sign = 0; sign < 3; sign++) {
            Check.book(x, sign + " 1;");
            check.due("seen " + sign, x.likeliest(), 0);
            Check.book(x, sign + " 0;");
            check.due("not seen " + sign, x.likeliest(), 1);
        }
    }

    @Says("blanks (32) may stand ahead of all these, and at the end")
    void blanksBetween() {
        check.due("a plan", sound(PLAN_TEXT, "   0   1   2  ;  1  1 ;   ", 2).line(0, 1), 6);
        check.due("a plan with as few as can be", sound(PLAN_TEXT, "0 1 2;1 1;", 2).line(1, 1), 2);
        check.due("a book", sound(BOOK_TEXT, "   0   1  ;  2 0 ;   ", 2).told(6), 2);
        faultyPlan("01;", 1, 2);
        faultyPlan("0 12;", 2, 2);
        faultyBook("01;", 1, 2);
    }
}
