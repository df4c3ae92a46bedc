/** Promises 14 to 24 and 41 to 48: plans, the soonest one, evenings, changes, images; worked out by hand. */
public final class PlansTest {
    private final Check check = new Check();

    public static void main(String[] args) {
        PlansTest test = new PlansTest();
        test.lines();
        test.blocked();
        test.laws();
        test.wetAndIdle();
        test.umbrella();
        test.slack();
        test.slackByLaw();
        test.aheadAndChain();
        test.soonest();
        test.soonestAlike();
        test.evening();
        test.evenings();
        test.swap();
        test.hand();
        test.drop();
        test.undo();
        test.twentyChanges();
        test.images();
        test.counts();
        test.check.end();
    }

    private void line(RainWheel x, int line, int deed, int people, int begins, int ends) {
        check.due("deed of line " + line, x.line(line, 0), deed);
        check.due("people of line " + line, x.line(line, 1), people);
        check.due("blocked line " + line, x.line(line, 2), begins < 0 ? 1 : 0);
        check.due("begin of line " + line, x.line(line, 3), begins);
        check.due("end of line " + line, x.line(line, 4), ends);
    }

    private void lines() {
        RainWheel x = Check.told("person 3;person 5;person 2;deed 4 0 1 0;deed 7 0 2 8;deed 2 0 1 2;deed 3 0 1 0;needs 2 0;needs 3 1;",
            "2 2;0 0;1 1 0;3 2;");
        // Deed 2 needs deed 0, which is in no line ahead of it.
        line(x, 0, 2, 4, -1, -1);
        line(x, 1, 0, 1, 0, 4);
        line(x, 2, 1, 3, 4, 11);
        line(x, 3, 3, 4, 11, 14);
        check.due("span", x.span(), 14);
        check.missing("line 4", () -> x.line(4, 0));
        check.missing("line -1, ahead of what 9", () -> x.line(-1, 9));
        check.improper("what 5", () -> x.line(0, 5));
        check.improper("what -1", () -> x.line(0, -1));
        Check.plan(x, "0 0;2 2;");
        line(x, 1, 2, 4, 4, 6);
        Check.plan(x, "");
        check.due("span of none", x.span(), 0);
        Check.plan(x, "2 2;");
        check.due("span of blocked ones", x.span(), 0);
    }

    private void blocked() {
        String road = "person 3;person 5;person 4;deed 1 0 1 4;deed 1 0 2 8;deed 1 0 2 0;needs 1 0;";
        RainWheel x = Check.told(road, "0 0;");
        check.due("not strong enough", x.line(0, 2), 1);
        Check.plan(x, "0 2;");
        check.due("just strong enough", x.line(0, 2), 0);
        Check.plan(x, "0 1 2;");
        check.due("too many hands", x.line(0, 2), 1);
        Check.plan(x, "2 1;");
        check.due("too few hands", x.line(0, 2), 1);
        Check.plan(x, "0 0;1 0 1;");
        check.due("what it needs is blocked", x.line(1, 2), 1);
        Check.plan(x, "0 1;1 0 1;");
        check.due("8 together are enough", x.line(1, 2), 0);
        Check.plan(x, "0 1;1 0 2;");
        check.due("7 together are not", x.line(1, 2), 1);
        Check.plan(x, "1 0 1;0 1;");
        check.due("what it needs comes behind it", x.line(0, 2), 1);
        Check.plan(x, "1 0 1;0 0;2 0 2;");
        check.due("blocked lines keep nobody busy", x.line(2, 3), 0);
    }

    private void laws() {
        RainWheel x = Check.told("person 3;person 5;deed 4 1 1 0;deed 4 0 1 0;deed 9 1 2 0;rain 5 5;", "0 0;1 1;2 0 1;");
        Check.law(x, "minutes+rain*10+strong-hands");
        line(x, 0, 0, 1, 0, 6);
        line(x, 1, 1, 2, 0, 8);
        line(x, 2, 2, 3, 8, 23);
        Check.law(x, "5+rain*10");
        // Both begin in minute 0 and end in 5; the last begins in the rain and is out.
        line(x, 2, 2, 3, 5, 20);
        Check.law(x, "minute+1");
        line(x, 2, 2, 3, 1, 3);
        Check.law(x, "most[99,1]");
        check.due("span", x.span(), 198);
        // Beyond minute 240 there is no rain.
        RainWheel y = Check.told("person 1;" + "deed 1 1 1 0;".repeat(12) + "rain 0 240;", "0 0;1 0;2 0;3 0;4 0;5 0;6 0;7 0;8 0;9 0;10 0;11 0;");
        Check.law(y, "999");
        check.due("span", y.span(), 1188);
        check.due("wet", y.wet(0), 241);
        Check.law(y, "50+rain");
        // 51 minutes each as long as they begin by minute 240: 0, 51, 102, 153, 204; then 50 each.
        check.due("span", y.span(), 255 + 7 * 50);
    }

    private void wetAndIdle() {
        RainWheel x = Check.told("person 3;person 5;person 1;deed 6 1 1 0;deed 5 0 1 0;deed 4 1 2 0;rain 2 3;rain 3 8;rain 20 30;",
            "0 0;1 1;2 0 1;");
        // 0: minutes 0 to 5 by person 0; 1: 0 to 4 by person 1, not out; 2: 6 to 9 by both.
        check.due("span", x.span(), 10);
        check.due("wet 0", x.wet(0), 4 + 3);
        check.due("wet 1", x.wet(1), 3);
        check.due("wet 2", x.wet(2), 0);
        check.due("idle 0", x.idle(0), 0);
        check.due("idle 1", x.idle(1), 1);
        check.due("idle 2", x.idle(2), 10);
        check.missing("wet 3", () -> x.wet(3));
        check.missing("wet -1", () -> x.wet(-1));
        check.missing("idle 3", () -> x.idle(3));
        check.missing("idle -1", () -> x.idle(-1));
        check.due("refused", x.status(0), 4);
    }

    private void umbrella() {
        RainWheel x = Check.told("person 3;person 5;person 1;deed 6 1 1 0;deed 5 1 1 0;deed 5 1 1 0;rain 0 100;", "0 0;1 1;2 2;");
        check.due("the wettest", x.umbrella(), 0);
        x.drop(0);
        check.due("of alike ones the first", x.umbrella(), 1);
        x.drop(0);
        check.due("the only one", x.umbrella(), 2);
        x.drop(0);
        check.due("nobody", x.umbrella(), -1);
        check.due("a new object", Check.fresh().umbrella(), -1);
    }

    private void slack() {
        RainWheel x = Check.told("person 3;person 5;person 1;deed 6 0 1 0;deed 4 0 1 0;deed 3 0 1 0;deed 2 0 2 0;deed 5 0 1 9;needs 2 0;",
            "0 0;1 1;2 0;4 2;");
        // 0: 0 to 6, 1: 0 to 4, 2: 6 to 9, 4 blocked; 3 in no line.
        check.due("slack 0", x.slack(0), 0);
        check.due("slack 1", x.slack(1), 5);
        check.due("slack 2", x.slack(2), 0);
        check.due("slack 3: in no line", x.slack(3), -1);
        check.due("slack 4: blocked", x.slack(4), -1);
        check.due("urgent", x.urgent(), 1 | 4);
        check.missing("slack 5", () -> x.slack(5));
        check.missing("slack -1", () -> x.slack(-1));
        Check.law(x, "minutes*most[1,4-minutes]*30");
        // 0, 1 and 2 last 99, 99, 90: 0 and 2 one behind the other, 1 beside them.
        check.due("slack 1 by a law", x.slack(1), 90);
        RainWheel y = Check.told("person 1;person 1;deed 1 0 1 0;deed 1 0 1 0;deed 1 0 1 0;needs 2 1;", "0 0;1 1;2 1;");
        Check.law(y, "99");
        check.due("99 more", y.slack(0), 99);
        check.due("but the others", y.urgent(), 6);
        RainWheel z = Check.told("person 1;person 1;deed 1 0 1 0;deed 1 0 1 0;deed 1 0 1 0;deed 1 0 1 0;", "0 0;1 1;2 1;3 1;");
        Check.law(z, "99");
        check.due("no more than 99 of 198", z.slack(0), 99);
        check.due("urgent", z.urgent(), 14);
    }

    private void slackByLaw() {
        // The second line lasts 20 if it begins in minute 3 or 4 to 5, else 1: each fewer must hold, too.
        RainWheel x = Check.told("person 1;person 1;deed 2 0 1 0;deed 1 0 1 0;deed 10 0 1 0;needs 1 0;", "0 0;1 0;2 1;");
        Check.law(x, "most[minutes,least[1,minute/4]*least[1,6/most[1,minute]]*20]");
        // Begins: 2 as told; 3 (1 more): lasts 1; 4 (2 more): lasts 20; 7 (5 more): lasts 1 again.
        check.due("span", x.span(), 10);
        check.due("by each fewer", x.slack(0), 1);
        // The line that lasts longer keeps its own begin, and its rain.
        RainWheel y = Check.told("person 1;person 1;deed 3 1 1 0;deed 8 0 1 0;rain 0 0;", "0 0;1 1;");
        Check.law(y, "minutes+rain*2");
        check.due("slack", y.slack(0), 3);
    }

    private void aheadAndChain() {
        RainWheel x = Check.told("deed 5 0 1 0;deed 9 0 1 0;deed 2 0 1 0;deed 4 0 1 0;deed 1 0 1 0;needs 2 0;needs 3 2;needs 3 1;needs 4 0;", "");
        int[] ahead = {0, 0, 1, 1 | 2 | 4, 1};
        int[] chain = {5, 9, 7, 13, 6};
        for (int deed = 0; deed < 5; deed++) {
            check.due("ahead " + deed, x.ahead(deed), ahead[deed]);
            check.due("chain " + deed, x.chain(deed), chain[deed]);
        }
        Check.law(x, "99");
        check.due("by minutes alone", x.chain(3), 13);
        check.missing("ahead 5", () -> x.ahead(5));
        check.missing("ahead -1", () -> x.ahead(-1));
        check.missing("chain 5", () -> x.chain(5));
        check.missing("chain -1", () -> x.chain(-1));
        RainWheel y = Check.told("deed 30 0 1 0;".repeat(12) + "needs 1 0;needs 2 1;needs 3 2;needs 4 3;needs 5 4;needs 6 5;needs 7 6;"
            + "needs 8 7;needs 9 8;needs 10 9;needs 11 10;", "");
        check.due("all", y.ahead(11), 2047);
        check.due("360", y.chain(11), 360);
    }

    private void soonest() {
        RainWheel x = Check.told("person 4;person 6;deed 5 0 1 0;deed 3 0 1 0;deed 4 0 1 5;", "");
        // Person 1 must do deed 2; 12 minutes by two: 6 at the least, but 5 + 3 and 4, or 5 and 3 + 4 = 7.
        check.due("span", x.soonest(0), 7);
        check.due("wet", x.soonest(1), 0);
        check.due("first 0", x.first(0), 1);
        check.due("first 1", x.first(1), 102);
        check.due("first 2", x.first(2), 202);
        check.improper("first 3", () -> x.first(3));
        check.improper("first -1", () -> x.first(-1));
        check.improper("soonest 2", () -> x.soonest(2));
        check.improper("soonest -1", () -> x.soonest(-1));
        Check.law(x, "strong");
        // 4 each by the weak one, 6 by the strong one: 0 and 1 by person 0, 2 by person 1.
        check.due("by a law: span", x.soonest(0), 8);
        check.due("by a law: first 0", x.first(0), 1);
        check.due("by a law: first 1", x.first(1), 101);
        check.due("by a law: first 2", x.first(2), 202);
        Check.road(x, "person 4;deed 5 0 2 0;");
        check.due("none", x.soonest(0), -1);
        check.due("none", x.soonest(1), -1);
        check.due("none", x.first(0), -1);
        Check.road(x, "deed 1 0 1 0;".repeat(6));
        check.untimely("6 deeds", () -> x.soonest(0));
        check.untimely("6 deeds", () -> x.first(0));
        check.improper("behind others", () -> x.soonest(2));
        check.improper("behind others", () -> x.first(6));
        check.due("refused", x.status(2), 2);
        check.due("refused", x.status(1), 6);
        Check.road(x, "deed 1 0 1 0;".repeat(5));
        check.due("5 deeds, nobody", x.soonest(0), -1);
        Check.road(x, "");
        check.due("no deeds", x.soonest(0), 0);
        check.due("no deeds", x.soonest(1), 0);
        check.improper("no lines", () -> x.first(0));
    }

    private void soonestAlike() {
        // By span alone deed 0 could go first: but then both are out in the rain.
        RainWheel x = Check.told("person 1;person 1;deed 3 1 1 0;deed 2 0 1 0;deed 5 0 1 0;rain 0 1;", "");
        check.due("span", x.soonest(0), 5);
        check.due("the least wet", x.soonest(1), 0);
        check.due("the first of these", x.first(0), 101);
        check.due("then", x.first(1), 1);
        check.due("then", x.first(2), 202);
        RainWheel y = Check.told("person 2;person 2;person 2;deed 3 1 2 0;deed 3 1 2 0;needs 1 0;rain 1 4;", "");
        check.due("wet of both together", y.soonest(1), 8);
        check.due("people as bits", y.first(0), 3);
        check.due("people as bits", y.first(1), 103);
        // What a plan needs goes ahead of it whatever its number.
        RainWheel z = Check.told("person 1;person 1;deed 1 0 1 0;deed 9 0 1 0;deed 1 0 1 0;needs 2 0;", "1 0;");
        check.due("span", z.soonest(0), 9);
        check.due("0", z.first(0), 1);
        check.due("1 by the other", z.first(1), 102);
        check.due("2", z.first(2), 201);
    }

    private void evening() {
        RainWheel x = Check.told("person 1;person 1;deed 5 1 1 0;deed 3 0 1 0;deed 9 0 2 0;needs 1 0;rain 4 20;loses 8;", "2 0;0 0;1 1;");
        // Seed 1: 1,103,527,590 draws 16838 (6 by 16), then 2,524,885,223 wraps: its bits 16 to 30 are 5758 (14 by 16).
        // Line 0 is blocked and draws nothing; deed 0 is done again: 0 to 10, deed 1 not: 10 to 13.
        check.due("span", x.evening(1, 0), 13);
        check.due("wet", x.evening(1, 1), 6);
        check.due("again", x.evening(1, 2), 1);
        check.due("as told", x.span(), 8);
        check.improper("what 3", () -> x.evening(1, 3));
        check.improper("what -1", () -> x.evening(1, -1));
        Check.road(x, "person 1;deed 5 1 1 0;loses 6;");
        Check.plan(x, "0 0;");
        check.due("6 is not below 6", x.evening(1, 2), 0);
        check.due("so it ends in 5", x.evening(1, 0), 5);
        Check.road(x, "person 1;deed 5 1 1 0;loses 7;");
        Check.plan(x, "0 0;");
        check.due("6 is below 7", x.evening(1, 2), 1);
        Check.law(x, "60");
        check.due("as long as before", x.evening(1, 0), 120);
    }

    private void evenings() {
        RainWheel x = Check.told("person 1;deed 5 1 1 0;loses 8;", "0 0;");
        // First draws by 16 of seeds 0 to 3: 12345 >> 16 is 0; 16838 is 6; 2,207,042,835 has bits 909 (13);
        // 3,310,558,080 has bits 17747 (3).
        check.due("least", x.evenings(0, 4, 0), 5);
        check.due("greatest", x.evenings(0, 4, 1), 10);
        check.due("all together", x.evenings(0, 4, 2), 35);
        check.due("none again", x.evenings(0, 4, 3), 1);
        check.due("one seed", x.evenings(2, 1, 1), 5);
        check.due("least of those done again", x.evenings(0, 2, 0), 10);
        check.due("40", x.evenings(0, 40, 2) + 5L * x.evenings(0, 40, 3), 400);
        check.due("seeds wrap", x.evenings(Integer.MAX_VALUE, 2, 2),
            x.evening(Integer.MAX_VALUE, 0) + x.evening(Integer.MIN_VALUE, 0));
        check.improper("none", () -> x.evenings(0, 0, 0));
        check.improper("41", () -> x.evenings(0, 41, 0));
        check.improper("what 4", () -> x.evenings(0, 1, 4));
        check.improper("what -1", () -> x.evenings(0, 1, -1));
        check.due("refused", x.status(1), 4);
        RainWheel y = Check.fresh();
        check.due("without a plan", y.evenings(9, 40, 3), 40);
        check.due("without a plan", y.evenings(9, 40, 1), 0);
    }

    private static RainWheel three() {
        return Check.told("person 1;person 2;person 3;deed 2 0 1 0;deed 3 0 1 0;deed 4 0 1 0;", "0 0;1 1;2 2;");
    }

    private void order(RainWheel x, int... lines) {
        check.due("how many lines", x.told(5), lines.length);
        for (int k = 0; k < lines.length; k++) {
            check.due("line " + k, 10 * x.line(k, 0) + x.line(k, 1), lines[k]);
        }
    }

    private void swap() {
        RainWheel x = three();
        check.due("swap", x.swap(0, 2), 1);
        order(x, 24, 12, 1);
        check.due("one", x.swap(1, 1), 0);
        check.due("no change", x.count(2), 1);
        check.due("swap", x.swap(2, 1), 1);
        order(x, 24, 1, 12);
        check.missing("no line", () -> x.swap(0, 3));
        check.missing("no line", () -> x.swap(3, 0));
        check.missing("no line", () -> x.swap(-1, 0));
        check.missing("no line", () -> x.swap(0, -1));
        check.missing("no line, though they are one", () -> x.swap(3, 3));
        check.due("undo", x.undo(), 1);
        order(x, 24, 12, 1);
        check.due("refused", x.status(0), 5);
    }

    private void hand() {
        RainWheel x = three();
        check.due("hand", x.hand(1, 5), 1);
        order(x, 1, 15, 24);
        check.due("blocked by that", x.line(1, 2), 1);
        check.due("the same again", x.hand(1, 5), 1);
        check.due("two changes", x.count(2), 2);
        check.missing("no line", () -> x.hand(3, 1));
        check.missing("no line, ahead of people", () -> x.hand(-1, 0));
        check.improper("nobody", () -> x.hand(0, 0));
        check.improper("three", () -> x.hand(0, 7));
        check.improper("no such person", () -> x.hand(0, 8));
        check.improper("no such person", () -> x.hand(0, 9));
        check.improper("all bits", () -> x.hand(0, -1));
        check.improper("the highest bit", () -> x.hand(0, Integer.MIN_VALUE));
        check.due("undo", x.undo(), 1);
        order(x, 1, 15, 24);
        check.due("undo", x.undo(), 0);
        order(x, 1, 12, 24);
    }

    private void drop() {
        RainWheel x = three();
        check.missing("no line", () -> x.drop(3));
        check.missing("no line", () -> x.drop(-1));
        check.due("drop", x.drop(1), 2);
        order(x, 1, 24);
        check.due("drop", x.drop(0), 1);
        order(x, 24);
        check.due("drop", x.drop(0), 0);
        check.missing("none left", () -> x.drop(0));
        check.due("undo", x.undo(), 2);
        order(x, 24);
        check.due("undo", x.undo(), 1);
        order(x, 1, 24);
        check.due("undo", x.undo(), 0);
        order(x, 1, 12, 24);
    }

    private void undo() {
        RainWheel x = three();
        check.due("nothing", x.undo(), -1);
        x.swap(0, 1);
        x.drop(0);
        x.hand(0, 4);
        order(x, 4, 24);
        check.due("the latest", x.undo(), 2);
        order(x, 1, 24);
        x.hand(1, 2);
        order(x, 1, 22);
        check.due("undo", x.undo(), 2);
        check.due("undo", x.undo(), 1);
        order(x, 12, 1, 24);
        check.due("undo", x.undo(), 0);
        order(x, 1, 12, 24);
        check.due("nothing", x.undo(), -1);
    }

    private void twentyChanges() {
        RainWheel x = three();
        for (int k = 0; k < 19; k++) {
            check.due("hand", x.hand(0, 1 + k % 3), 1);
        }
        check.due("the 20th", x.swap(0, 1), 1);
        check.due("swap", x.swap(0, 1), -1);
        check.due("one", x.swap(1, 1), 0);
        check.due("hand", x.hand(0, 1), -1);
        check.due("drop", x.drop(0), -1);
        check.missing("refusals ahead of that", () -> x.drop(3));
        check.improper("refusals ahead of that", () -> x.hand(0, 0));
        order(x, 12, 1, 24);
        check.due("20", x.count(2), 20);
        check.due("undo", x.undo(), 19);
        check.due("drop", x.drop(2), 2);
        for (int k = 19; k >= 0; k--) {
            check.due("undo", x.undo(), k);
        }
        order(x, 1, 12, 24);
    }

    private void images() {
        RainWheel x = three();
        check.due("none", x.restore(), -1);
        x.swap(0, 1);
        check.due("image", x.image(), 1);
        x.drop(2);
        check.due("image", x.image(), 2);
        x.hand(0, 1);
        check.due("image", x.image(), 3);
        check.due("there are 3", x.image(), -1);
        check.due("count", x.count(0), 3);
        x.undo();
        x.undo();
        x.undo();
        order(x, 1, 12, 24);
        check.missing("a refusal", () -> x.drop(9));
        Check.law(x, "50");
        Check.book(x, "1 1;");
        check.due("restore", x.restore(), 2);
        order(x, 11, 1);
        check.due("changes", x.count(2), 3);
        check.due("no image keeps refusals", x.status(0), 1);
        check.due("nor the law", x.span(), 100);
        check.due("nor the book", x.told(6), 1);
        check.due("restore", x.restore(), 1);
        order(x, 12, 1);
        check.due("restore", x.restore(), 0);
        order(x, 12, 1, 24);
        check.due("undo what was ahead of it", x.undo(), 0);
        order(x, 1, 12, 24);
        check.due("none", x.restore(), -1);
        check.due("again", x.image(), 1);
        x.drop(0);
        check.due("restored", x.restore(), 0);
        // An image keeps each change whole: its kind, its line and what was there.
        x.hand(2, 1);
        x.swap(0, 1);
        x.image();
        x.undo();
        x.undo();
        x.drop(0);
        x.hand(1, 3);
        x.restore();
        order(x, 12, 1, 21);
        check.due("undo the swap", x.undo(), 1);
        order(x, 1, 12, 21);
        check.due("undo the hand", x.undo(), 0);
        order(x, 1, 12, 24);
        check.due("again", x.image(), 1);
        x.drop(0);
        check.due("a fault keeps it", Check.plan(x, "0"), -9);
        check.due("restored", x.restore(), 0);
        order(x, 1, 12, 24);
    }

    private void counts() {
        RainWheel x = three();
        check.due("status -1", x.status(-1), -1);
        check.due("status 3", x.status(3), -1);
        check.due("count -1", x.count(-1), -1);
        check.due("count 3", x.count(3), -1);
        x.feed(0, 0, 0, 0, 0);
        check.due("bytes", x.count(1), 20);
        check.missing("a line", () -> x.line(5, 0));
        check.improper("a what", () -> x.told(77));
        check.improper("a what", () -> x.told(78));
        check.due("status 0", x.status(0), 1);
        check.due("status 1", x.status(1), 2);
        check.due("status 2", x.status(2), 0);
        x.road(0);
        check.due("a road keeps refusals", x.status(1), 2);
    }
}
