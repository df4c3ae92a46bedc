/** The edges of part ==== 2. of the Terms and of promises 14 to 24: what follows from a PLAN, and the soonest one. */
public final class PlanEdgesTest extends Edges {
    private static final String TWELVE_LINES = "0 0;1 0;2 0;3 0;4 0;5 0;6 0;7 0;8 0;9 0;10 0;11 0;";

    public static void main(String[] args) {
        new PlanEdgesTest().runAll();
    }

    private void line(RainWheel x, int line, int begins, int ends) {
        check.due("blocked: line " + line, x.line(line, 2), begins < 0 ? 1 : 0);
        check.due("begin of line " + line, x.line(line, 3), begins);
        check.due("end of line " + line, x.line(line, 4), ends);
    }

    private void blocked(String road, String plan, int... lines) {
        RainWheel x = Check.told(road, plan);
        for (int k = 0; k < lines.length; k++) {
            check.due(road + " / " + plan + ": line " + k + " blocked", x.line(k, 2), lines[k]);
            check.due("no begin", x.line(k, 3) == RainWheel.NONE ? 1 : 0, lines[k]);
            check.due("no end", x.line(k, 4) == RainWheel.NONE ? 1 : 0, lines[k]);
        }
    }

    // ---- the Terms ----

    @Says("By a PLAN, line by line: a DEED is BLOCKED, if its line has not just H PEOPLE")
    void notJustHPeople() {
        String people = "person 9;person 9;";
        blocked(people + "deed 1 0 1 0;", "0 0;", 0);
        blocked(people + "deed 1 0 1 0;", "0 0 1;", 1);
        blocked(people + "deed 1 0 2 0;", "0 0;", 1);
        blocked(people + "deed 1 0 2 0;", "0 0 1;", 0);
    }

    @Says("or they are not S STRONG together")
    void notStrongEnough() {
        for (int s = 0; s <= 18; s++) {
            blocked("person 4;person 5;deed 1 0 1 " + s + ";", "0 0;", s > 4 ? 1 : 0);
            blocked("person 4;person 5;deed 1 0 1 " + s + ";", "0 1;", s > 5 ? 1 : 0);
            blocked("person 4;person 5;deed 1 0 2 " + s + ";", "0 1 0;", s > 9 ? 1 : 0);
            blocked("person 9;person 9;deed 1 0 2 " + s + ";", "0 0 1;", 0);
        }
        blocked("person 9;person 8;deed 1 0 2 18;", "0 0 1;", 1);
    }

    @Says("or one it needs is in no line ahead that is not BLOCKED")
    void whatItNeedsIsNotDone() {
        String road = "person 5;deed 1 0 1 0;deed 1 0 1 6;deed 1 0 1 0;deed 1 0 1 0;needs 2 0;needs 3 1;needs 3 2;";
        blocked(road, "2 0;", 1);
        blocked(road, "2 0;0 0;", 1, 0);
        blocked(road, "0 0;2 0;", 0, 0);
        blocked(road, "1 0;3 0;", 1, 1);
        blocked(road, "0 0;1 0;2 0;3 0;", 0, 1, 0, 1);
        String chain = "person 5;deed 1 0 1 6;deed 1 0 1 0;deed 1 0 1 0;deed 1 0 1 0;needs 1 0;needs 2 1;";
        blocked(chain, "0 0;1 0;2 0;3 0;", 1, 1, 1, 0);
        // One of two is not enough.
        String both = "person 5;deed 1 0 1 0;deed 1 0 1 0;deed 1 0 1 0;needs 2 0;needs 2 1;";
        blocked(both, "0 0;2 0;1 0;", 0, 1, 0);
        blocked(both, "0 0;1 0;2 0;", 0, 0, 0);
        blocked(both, "1 0;0 0;2 0;", 0, 0, 0);
    }

    @Says("else it BEGINS in the first MINUTE (from 0 on) in which its PEOPLE have ended all their lines ahead and all it needs have ENDED,"
        + " and ENDS as many MINUTES later as it LASTS")
    void beginsAndEnds() {
        String road = "person 5;person 5;person 1;deed 3 0 1 0;deed 5 0 1 0;deed 2 0 2 0;deed 4 0 1 0;deed 1 0 1 9;needs 3 1;";
        RainWheel x = Check.told(road, "0 0;1 1;2 0 2;3 2;4 0;");
        line(x, 0, 0, 3);
        line(x, 1, 0, 5);
        line(x, 2, 3, 5);
        line(x, 3, 5, 9);
        line(x, 4, -1, -1);
        RainWheel y = Check.told(road, "4 0;0 0;2 0 1;1 1;3 0;");
        line(y, 0, -1, -1);
        line(y, 1, 0, 3);
        line(y, 2, 3, 5);
        line(y, 3, 5, 10);
        line(y, 4, 10, 14);
        // No gap is filled: a line begins behind all its people's lines ahead.
        RainWheel z = Check.told("person 1;person 1;deed 30 0 1 0;deed 1 0 2 0;deed 1 0 1 0;", "0 0;1 0 1;2 1;");
        line(z, 1, 30, 31);
        line(z, 2, 31, 32);
    }

    @Says("SPAN: the latest END (0 without)")
    void latestEnd() {
        check.due("no lines", Check.told("person 1;deed 9 0 1 0;", "").span(), 0);
        check.due("only blocked ones", Check.told("person 1;deed 9 0 2 0;", "0 0;").span(), 0);
        check.due("one", Check.told("person 1;deed 9 0 1 0;", "0 0;").span(), 9);
        check.due("not the last line's", Check.told("person 1;person 1;deed 9 0 1 0;deed 2 0 1 0;", "0 0;1 1;").span(), 9);
        RainWheel x = Check.told("person 1;" + "deed 1 0 1 0;".repeat(12), TWELVE_LINES);
        Check.law(x, "999");
        check.due("twelve times 99", x.span(), 1188);
    }

    @Says("WET of a PERSON: MINUTES of rain in which that one does a DEED that is out")
    void minutesOfRain() {
        // Person 0 is out in minutes 4 to 7, so in each of these it may rain; not in 3, not in 8.
        String road = "person 1;person 1;deed 4 0 1 0;deed 4 1 1 0;deed 4 0 1 0;deed 30 0 1 0;";
        for (int minute = 2; minute <= 10; minute++) {
            RainWheel x = Check.told(road + "rain " + minute + " " + minute + ";", "0 0;1 0;2 0;3 1;");
            check.due("rain in " + minute, x.wet(0), minute >= 4 && minute <= 7 ? 1 : 0);
            check.due("the other is not out", x.wet(1), 0);
        }
        check.due("two rains in one minute are one", Check.told(road + "rain 0 5;rain 5 6;", "0 0;1 0;").wet(0), 3);
        check.due("rain all the time", Check.told(road + "rain 0 240;", "0 0;1 0;2 0;").wet(0), 4);
        check.due("blocked: nobody gets wet", Check.told("person 1;deed 9 1 2 0;rain 0 240;", "0 0;").wet(0), 0);
        RainWheel both = Check.told("person 1;person 1;deed 9 1 2 0;rain 8 240;", "0 0 1;");
        check.due("both get wet", both.wet(0) + 10 * both.wet(1), 11);
        RainWheel late = Check.told("person 1;" + "deed 30 1 1 0;".repeat(12) + "rain 0 240;", TWELVE_LINES);
        check.due("241 minutes of rain at most", late.wet(0), 241);
        check.due("of 360", late.span(), 360);
    }

    @Says("SLACK of a DEED: by how many MINUTES (0 to 99) more it may last")
    void slackUpTo99() {
        // Deed 0 lasts 1 beside the others' 98 to 101 minutes.
        int[] last = {8, 9, 10, 11};
        int[] due = {97, 98, 99, 99};
        for (int k = 0; k < 4; k++) {
            RainWheel x = Check.told("person 1;person 1;deed 1 0 1 0;" + "deed 30 0 1 0;".repeat(3) + "deed " + last[k] + " 0 1 0;",
                "0 0;1 1;2 1;3 1;4 1;");
            check.due("span", x.span(), 90 + last[k]);
            check.due("slack by " + last[k], x.slack(0), due[k]);
            check.due("none", x.slack(4), 0);
        }
        RainWheel one = Check.told("person 1;person 1;deed 5 0 1 0;deed 6 0 1 0;", "0 0;1 1;");
        check.due("one minute", one.slack(0), 1);
        RainWheel longer = Check.told("person 1;person 1;" + "deed 1 0 1 0;".repeat(4), "0 0;1 1;2 1;3 1;");
        Check.law(longer, "99");
        check.due("what lasts 99 may last 99 more", longer.slack(0), 99);
    }

    @Says("all other lines as told (beginning by that), so that by these, and by each fewer, the SPAN is no later")
    void slackByEachFewer() {
        // The line behind it lasts 20 if it begins in minute 5, else 1: 4 more would do, 3 more would not.
        RainWheel x = Check.told("person 1;person 1;deed 2 0 1 0;deed 1 0 1 0;deed 12 0 1 0;needs 1 0;", "0 0;1 0;2 1;");
        Check.law(x, "most[minutes,20-19*least[1,(minute-5)*(minute-5)]-least[1,minutes/2]*19]");
        check.due("span", x.span(), 12);
        check.due("begins in 2", x.line(1, 3), 2);
        check.due("by each fewer", x.slack(0), 2);
        // Others begin by that: a line behind it is pushed on, and all behind that.
        RainWheel y = Check.told("person 1;person 1;deed 2 0 1 0;deed 3 0 2 0;deed 10 0 1 0;", "0 0;2 1;1 0 1;");
        check.due("till both are free", y.slack(0), 8);
        // A later begin may last shorter: out of the rain.
        RainWheel z = Check.told("person 1;person 1;deed 2 0 1 0;deed 3 1 1 0;deed 9 0 1 0;needs 1 0;rain 0 2;", "0 0;1 0;2 1;");
        Check.law(z, "minutes+rain*4");
        check.due("as told it ends in 9", z.line(1, 4), 9);
        check.due("then in 6 and on", z.slack(0), 4);
        // The line itself lasts as before and more, whatever the law says of others.
        RainWheel w = Check.told("person 1;person 1;deed 3 1 1 0;deed 9 0 1 0;rain 0 0;", "0 0;1 1;");
        Check.law(w, "minutes+rain*5");
        check.due("8 and 1 more", w.slack(0), 1);
    }

    @Says("SOONEST (5 DEEDS at most): of all PLANS with all DEEDS, none BLOCKED")
    void soonestOfFive() {
        RainWheel x = Check.told("person 1;" + "deed 3 0 1 0;".repeat(5), "");
        check.due("five", x.soonest(0), 15);
        for (int k = 0; k < 5; k++) {
            check.due("line " + k, x.first(k), 100 * k + 1);
        }
        check.due("one", Check.told("person 1;deed 7 0 1 0;", "").soonest(0), 7);
        check.due("none", Check.told("person 1;", "").soonest(0), 0);
        RainWheel six = Check.told("person 1;" + "deed 3 0 1 0;".repeat(6), "");
        check.untimely("six", () -> six.soonest(0));
        // All deeds, though fewer would be sooner; each by as many and as strong people as it must have.
        RainWheel y = Check.told("person 4;person 5;person 9;deed 5 0 2 10;deed 5 0 1 6;needs 1 0;", "");
        check.due("one behind the other", y.soonest(0), 10);
        check.due("4 and 5 are 9, 4 and 9 are 13", y.first(0), 5);
        check.due("only 9 is 6 strong", y.first(1), 104);
    }

    @Says("the one of the least SPAN, then of the least WET of all together, then the first (line by line: DEED, then its PEOPLE as bits)")
    void soonestOfAlike() {
        // Least span ahead of least wet.
        RainWheel x = Check.told("person 1;person 1;deed 5 1 1 0;deed 5 0 1 0;rain 0 4;", "");
        check.due("span", x.soonest(0), 5);
        check.due("wet", x.soonest(1), 5);
        // Least wet ahead of the first.
        RainWheel y = Check.told("person 1;deed 5 1 1 0;deed 5 0 1 0;rain 0 4;", "");
        check.due("span", y.soonest(0), 10);
        check.due("wet", y.soonest(1), 0);
        check.due("the other deed goes first", y.first(0), 101);
        check.due("then it", y.first(1), 1);
        // The first: by deed ahead of people.
        RainWheel z = Check.told("person 1;person 9;deed 1 0 1 5;deed 1 0 1 0;", "");
        check.due("deed 0 by person 1", z.first(0), 2);
        check.due("deed 1 by person 0", z.first(1), 101);
        // People as bits: 3, 5, 6 in this order.
        check.due("3", Check.told("person 1;person 2;person 3;deed 1 0 2 3;", "").first(0), 3);
        check.due("5", Check.told("person 1;person 2;person 3;deed 1 0 2 4;", "").first(0), 5);
        check.due("6", Check.told("person 1;person 2;person 3;deed 1 0 2 5;", "").first(0), 6);
        check.due("12", Check.told("person 1;person 1;person 2;person 2;deed 1 0 2 4;", "").first(0), 12);
        // Wet of all together: two who are out together count twice.
        check.due("twice", Check.told("person 1;person 1;deed 3 1 2 0;rain 1 1;", "").soonest(1), 2);
        // As soon and as wet, though only in their last lines: the first.
        RainWheel w = Check.told("person 1;deed 1 1 1 0;deed 1 1 1 0;rain 1 1;", "");
        check.due("wet in the second minute", w.soonest(1), 1);
        check.due("the first", w.first(0), 1);
        check.due("and the second", w.first(1), 101);
        check.due("the first who can", Check.told("person 1;person 1;person 7;person 8;deed 1 0 1 7;", "").first(0), 4);
    }

    // ---- promises 14 to 18 ----

    @Says(promise = 14, value = "Of a line of the PLAN: 0 DEED, 1 its PEOPLE (bits), 2 1 BLOCKED, 0 not, 3 the MINUTE it BEGINS, 4 in which it ENDS"
        + " (NONE both: BLOCKED)")
    void lineWhat() {
        elements("line", 3, (x, line) -> x.line(line, 0));
        range("line what", 0, 4, (x, what) -> x.line(2, what));
        range("line 0 what", 0, 4, (x, what) -> x.line(0, what));
        RainWheel x = Check.told("person 5;person 6;deed 4 0 1 0;deed 3 0 2 12;deed 2 0 2 11;", "2 0 1;1 1 0;0 1;");
        int[][] due = {{2, 3, 0, 0, 2}, {1, 3, 1, -1, -1}, {0, 2, 0, 2, 6}};
        for (int line = 0; line < 3; line++) {
            for (int what = 0; what < 5; what++) {
                check.due("line " + line + " " + what, x.line(line, what), due[line][what]);
            }
        }
        RainWheel full = Check.told("person 1;" + "deed 1 0 1 0;".repeat(12), TWELVE_LINES);
        check.due("the twelfth", full.line(11, 4), 12);
        check.missing("a thirteenth", () -> full.line(12, 0));
        full.drop(0);
        check.missing("no more the twelfth", () -> full.line(11, 0));
    }

    @Says(promise = 15, value = "SPAN.")
    void span() {
        // 3 is blocked ahead of 0; 0: 0 to 3; 1 begins in the rain: 3 to 9.
        changesNothing("span", Edges::rich, 9, RainWheel::span);
        changesNothing("span of a new object", RainWheel::new, 0, RainWheel::span);
        RainWheel x = told();
        // 0: 0 to 3; 1 begins in the rain, so 3 to 9; 3: 3 to 5; 2: 9 to 13.
        check.due("as told", x.span(), 13);
        x.drop(3);
        check.due("less", x.span(), 9);
        x.undo();
        check.due("again", x.span(), 13);
    }

    @Says(promise = 16, value = "WET of a PERSON.")
    void wet() {
        elements("wet", 3, (x, person) -> x.wet(person));
        RainWheel x = told();
        int[] due = {0, 4, 0};
        for (int person = 0; person < 3; person++) {
            check.due("wet " + person, x.wet(person), due[person]);
        }
        check.missing("a fifth", () -> Check.told("person 1;".repeat(4), "").wet(4));
        check.due("a fourth", Check.told("person 1;".repeat(4), "").wet(3), 0);
    }

    @Says(promise = 17, value = "MINUTES up to the SPAN in which a PERSON does nothing")
    void idle() {
        elements("idle", 3, (x, person) -> x.idle(person));
        RainWheel x = told();
        // Of 13: person 0 does 0 (3), 3 (2) and 2 (4); person 1 does 1 (6) and 2 (4); person 2 nothing.
        int[] due = {4, 3, 13};
        for (int person = 0; person < 3; person++) {
            check.due("idle " + person, x.idle(person), due[person]);
        }
        check.due("never idle", Check.told("person 1;deed 9 0 1 0;", "0 0;").idle(0), 0);
        check.due("without a plan", Check.told("person 1;deed 9 0 1 0;", "").idle(0), 0);
        check.due("blocked", Check.told("person 1;person 1;deed 9 0 2 0;deed 4 0 1 0;", "0 0;1 1;").idle(0), 4);
    }

    @Says(promise = 18, value = "Who is to be held the umbrella over: the one who is WETTEST, of these the first; NONE: nobody gets wet")
    void umbrella() {
        String road = "person 1;person 1;person 1;person 1;deed 3 1 1 0;deed 3 1 1 0;deed 2 1 1 0;deed 4 0 1 0;rain 0 9;";
        check.due("the wettest", Check.told(road, "2 0;0 3;").umbrella(), 3);
        check.due("of these the first", Check.told(road, "2 0;0 3;1 1;").umbrella(), 1);
        check.due("whatever their lines' order", Check.told(road, "1 2;0 1;").umbrella(), 1);
        check.due("the first of all", Check.told(road, "2 1;0 0;1 3;").umbrella(), 0);
        check.due("the last of all", Check.told(road, "2 1;0 3;").umbrella(), 3);
        check.due("who is not out stays dry", Check.told(road, "3 0;").umbrella(), RainWheel.NONE);
        check.due("one minute is enough", Check.told("person 1;person 1;deed 1 1 1 0;rain 0 0;", "0 1;").umbrella(), 1);
        check.due("just too early", Check.told("person 1;person 1;deed 1 1 1 0;rain 1 1;", "0 1;").umbrella(), RainWheel.NONE);
        check.due("no lines", Check.told(road, "").umbrella(), RainWheel.NONE);
        changesNothing("nobody there", RainWheel::new, RainWheel.NONE, RainWheel::umbrella);
        check.due("blocked", Check.told("person 1;deed 3 1 2 0;rain 0 9;", "0 0;").umbrella(), RainWheel.NONE);
        changesNothing("umbrella", Edges::told, 1, RainWheel::umbrella);
    }

    // ---- promises 19 to 22 ----

    @Says(promise = 19, value = "SLACK of a DEED; NONE: it is in no line, or BLOCKED")
    void slack() {
        elements("slack", 4, (x, deed) -> x.slack(deed));
        RainWheel x = told();
        int[] due = {0, 0, 0, 4};
        for (int deed = 0; deed < 4; deed++) {
            check.due("slack " + deed, x.slack(deed), due[deed]);
        }
        x.drop(2);
        check.due("in no line", x.slack(3), RainWheel.NONE);
        x.hand(2, 1);
        check.due("blocked", x.slack(2), RainWheel.NONE);
        check.due("without a plan", Check.told("deed 1 0 1 0;", "").slack(0), RainWheel.NONE);
        RainWheel full = Check.told("person 1;" + "deed 1 0 1 0;".repeat(12), TWELVE_LINES);
        check.due("the twelfth", full.slack(11), 0);
        check.missing("a thirteenth", () -> full.slack(12));
    }

    @Says(promise = 20, value = "The DEEDS, as bits, that are in lines and have no SLACK")
    void urgent() {
        changesNothing("urgent", Edges::told, 7, RainWheel::urgent);
        RainWheel x = told();
        x.drop(0);
        check.due("all blocked: none", x.urgent(), 0);
        check.due("no lines", Check.told("person 1;deed 1 0 1 0;", "").urgent(), 0);
        check.due("all twelve", Check.told("person 1;" + "deed 1 0 1 0;".repeat(12), TWELVE_LINES).urgent(), 4095);
        check.due("but those in no line", Check.told("person 1;" + "deed 1 0 1 0;".repeat(12), "11 0;").urgent(), 2048);
        RainWheel y = Check.told("person 1;person 1;deed 5 0 1 0;deed 4 0 1 0;deed 5 0 2 0;", "0 0;1 1;2 0;");
        check.due("one minute of slack is slack, blocked is not urgent", y.urgent(), 1);
    }

    @Says(promise = 21, value = "All a DEED needs, and what that needs, as bits")
    void ahead() {
        elements("ahead", 4, (x, deed) -> x.ahead(deed));
        StringBuilder needs = new StringBuilder("deed 1 0 1 0;".repeat(12));
        for (int deed = 1; deed < 12; deed++) {
            needs.append("needs ").append(deed).append(' ').append(deed - 1).append(';');
        }
        RainWheel x = Check.told(needs.toString(), "");
        for (int deed = 0; deed < 12; deed++) {
            check.due("all ahead of " + deed, x.ahead(deed), (1 << deed) - 1);
            check.due("but told is one", x.deed(deed, 4), deed == 0 ? 0 : 1 << deed - 1);
        }
        // A clause that tells more of a deed that others need already counts for these, too.
        RainWheel y = Check.told("deed 1 0 1 0;".repeat(4) + "needs 3 2;needs 2 1;needs 1 0;", "");
        check.due("told backward", y.ahead(3), 7);
        check.due("nothing", Check.told("deed 1 0 1 0;", "").ahead(0), 0);
    }

    @Says(promise = 22, value = "How long a DEED and all it needs last at least by M alone, one behind the other where one needs the other")
    void chain() {
        elements("chain", 4, (x, deed) -> x.chain(deed));
        StringBuilder needs = new StringBuilder("deed 30 0 1 0;".repeat(12));
        for (int deed = 1; deed < 12; deed++) {
            needs.append("needs ").append(deed).append(' ').append(deed - 1).append(';');
        }
        RainWheel x = Check.told(needs.toString(), "");
        for (int deed = 0; deed < 12; deed++) {
            check.due("chain " + deed, x.chain(deed), 30 * (deed + 1));
        }
        RainWheel y = Check.told("deed 4 0 1 0;deed 7 0 1 0;deed 1 0 1 0;deed 2 0 1 0;needs 2 0;needs 3 2;needs 3 1;", "");
        check.due("side by side: the longer", y.chain(3), 9);
        check.due("one needs the other", y.chain(2), 5);
        RainWheel even = Check.told("deed 4 0 1 0;deed 3 0 1 0;deed 1 0 1 0;needs 2 0;needs 2 1;", "");
        check.due("not together", even.chain(2), 5);
        Check.law(even, "99");
        check.due("by M alone", even.chain(2), 5);
        check.due("one minute", Check.told("deed 1 0 1 0;", "").chain(0), 1);
        RainWheel z = Check.told("deed 5 0 1 0;deed 6 0 1 0;deed 7 0 1 0;needs 2 1;needs 1 0;", "");
        check.due("told backward", z.chain(2), 18);
    }

    // ---- promises 23, 24 ----

    @Says(promise = 23, value = {"SOONEST: 0 SPAN, 1 WET of all; NONE: there is no such PLAN",
        "IllegalStateException: more than 5 DEEDS (behind others; so below)"})
    void soonest() {
        range("soonest", 0, 1, (x, what) -> x.soonest(what));
        for (int what : new int[] {0, 1}) {
            refused("soonest " + what + " of six", UNTIMELY, Edges::sixDeeds, x -> x.soonest(what));
        }
        for (int what : new int[] {-1, 2, Integer.MIN_VALUE, Integer.MAX_VALUE}) {
            refused("soonest " + what + " of six", IMPROPER, Edges::sixDeeds, x -> x.soonest(what));
        }
        String[] none = {"deed 1 0 1 0;", "person 1;deed 1 0 2 0;", "person 9;deed 1 0 1 10;", "person 9;person 8;deed 1 0 2 18;",
            "person 1;deed 1 0 1 0;deed 1 0 1 0;deed 1 0 1 0;deed 1 0 1 0;deed 1 0 2 0;"};
        for (String road : none) {
            RainWheel x = Check.told(road, "");
            check.due("no span: " + road, x.soonest(0), RainWheel.NONE);
            check.due("no wet: " + road, x.soonest(1), RainWheel.NONE);
        }
        RainWheel twelve = Check.told("deed 1 0 1 0;".repeat(12), "");
        check.untimely("twelve", () -> twelve.soonest(0));
        changesNothing("without deeds: span", RainWheel::new, 0, x -> x.soonest(0));
        changesNothing("without deeds: wet", RainWheel::new, 0, x -> x.soonest(1));
    }

    @Says(promise = 23, value = "SOONEST: 0 SPAN, 1 WET of all; NONE: there is no such PLAN")
    void soonestAnew() {
        RainWheel x = Check.told("person 2;person 6;deed 4 1 1 0;rain 0 1;", "0 0;");
        check.due("span", x.soonest(0), 4);
        check.due("wet", x.soonest(1), 2);
        Check.law(x, "9-strong");
        check.due("by another law", x.soonest(0), 3);
        check.due("by the other", x.first(0), 2);
        Check.law(x, "x");
        check.due("a faulty law changes nothing", x.soonest(0), 3);
        Check.road(x, "person 1;");
        check.due("by another road", x.soonest(0), 0);
        Check.road(x, "person 1;deed 2 0 2 0;");
        check.due("and one more", x.soonest(0), RainWheel.NONE);
        Check.road(x, "person 1;person 1;deed 2 0 2 0;");
        check.due("and one more", x.soonest(0), 2);
        check.due("no plan is told by it", x.told(5), 0);
        // None behind one that was: neither its wet nor its lines are left.
        Check.road(x, "person 1;deed 2 1 1 0;rain 0 9;");
        check.due("wet", x.soonest(1), 2);
        Check.road(x, "person 1;deed 2 1 2 0;rain 0 9;");
        check.due("no wet", x.soonest(1), RainWheel.NONE);
        check.due("no span", x.soonest(0), RainWheel.NONE);
        check.due("no line", x.first(0), RainWheel.NONE);
        RainWheel y = Check.told("person 6;person 2;deed 4 0 1 0;", "");
        Check.law(y, "strong");
        check.due("the weak one is sooner", y.soonest(0), 2);
        check.due("so not the first", y.first(0), 2);
        Check.law(y, "hands");
        check.due("both are as soon", y.soonest(0), 1);
        check.due("so the first", y.first(0), 1);
    }

    @Says(promise = 24, value = "Of SOONEST's k-th line (0 to DEEDS less 1): 100 times the DEED, and its PEOPLE (bits); NONE likewise")
    void first() {
        range("first", 0, 3, (x, k) -> x.first(k));
        for (int k : new int[] {0, 5}) {
            refused("first " + k + " of six", UNTIMELY, Edges::sixDeeds, x -> x.first(k));
        }
        for (int k : new int[] {-1, 6, Integer.MIN_VALUE, Integer.MAX_VALUE}) {
            refused("first " + k + " of six", IMPROPER, Edges::sixDeeds, x -> x.first(k));
        }
        refused("first 0 of none", IMPROPER, RainWheel::new, x -> x.first(0));
        RainWheel none = Check.told("deed 1 0 1 0;deed 1 0 1 0;", "");
        check.due("no such plan", none.first(0), RainWheel.NONE);
        check.due("no such plan", none.first(1), RainWheel.NONE);
        check.improper("no third line", () -> none.first(2));
        RainWheel five = Check.told("person 1;person 1;person 1;person 1;" + "deed 1 0 2 0;".repeat(5), "");
        // Two at a time: three minutes for the first two people, so that two deeds are left for the others.
        int[] all = {3, 103, 203, 312, 412};
        for (int k = 0; k < 5; k++) {
            check.due("line " + k + " of five", five.first(k), all[k]);
        }
        check.improper("no sixth", () -> five.first(5));
        // Deed 2 needs 1, which needs 0: 13 minutes, in which person 2 does deed 3 beside them.
        RainWheel x = told();
        int[] few = {1, 102, 203, 304};
        for (int k = 0; k < 4; k++) {
            check.due("line " + k, x.first(k), few[k]);
        }
    }
}
