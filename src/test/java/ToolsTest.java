/** Promises 25 to 40: the jack, pushing, tries, waits, nuts, the spare, causes; worked out by hand. */
public final class ToolsTest {
    private final Check check = new Check();

    public static void main(String[] args) {
        ToolsTest test = new ToolsTest();
        test.sinks();
        test.under();
        test.push();
        test.tries();
        test.half();
        test.easiest();
        test.waits();
        test.await();
        test.cross();
        test.crooked();
        test.share();
        test.drive();
        test.pumps();
        test.odds();
        test.likeliest();
        test.ask();
        test.check.end();
    }

    private void sinks() {
        RainWheel x = Check.told("load 50;board 4;board 1;board 9;yard 7 6;yard 8 20;", "");
        check.due("no boards", x.sinks(0, 0, 1), 47);
        check.due("240 minutes", x.sinks(59, 0, 240), 240 * 47);
        check.due("cut: 50 by 5", x.sinks(7, 1, 3), 12);
        check.due("cut: 50 by 15 is 3", x.sinks(0, 7, 9), 0);
        check.due("50 by 11 is 4", x.sinks(0, 6, 9), 9);
        check.due("not below 0", x.sinks(8, 1, 9), 0);
        check.due("no minutes", x.sinks(0, 0, 0), 0);
        check.improper("bits of no board", () -> x.sinks(0, 8, 1));
        check.improper("bits of no board", () -> x.sinks(0, -1, 1));
        check.improper("yard 60", () -> x.sinks(60, 0, 1));
        check.improper("yard -1", () -> x.sinks(-1, 0, 1));
        check.improper("minutes 241", () -> x.sinks(0, 0, 241));
        check.improper("minutes -1", () -> x.sinks(0, 0, -1));
        check.due("refused", x.status(1), 6);
        RainWheel y = Check.told("board 1;".repeat(6), "");
        check.due("all six", y.sinks(0, 63, 1), 0);
        check.improper("a seventh", () -> y.sinks(0, 64, 1));
    }

    private void under() {
        RainWheel x = Check.told("load 60;board 1;board 2;board 3;board 5;", "");
        // In 10 minutes on breadth 1: 570; 2: 270; 3: 170; 4: 120; 6: 70; 7: 50; 8: 40; 9: 30; 11 and 12: 20.
        check.due("none needed", x.under(0, 10, 570), 0);
        check.due("one, the least bits", x.under(0, 10, 569), 1);
        check.due("one", x.under(0, 10, 200), 2);
        check.due("one", x.under(0, 10, 70), 8);
        check.due("two", x.under(0, 10, 50), 9);
        check.due("two", x.under(0, 10, 40), 10);
        check.due("two", x.under(0, 10, 30), 12);
        check.due("three", x.under(0, 10, 20), 14);
        check.due("none do", x.under(0, 10, 19), -1);
        check.due("no minutes", x.under(0, 0, 0), 0);
        check.due("9999", x.under(0, 240, 9999), 1);
        RainWheel y = Check.told("load 60;board 5;board 3;board 3;board 3;", "");
        check.due("fewer ahead of lower bits", y.under(0, 10, 70), 1);
        check.due("two of the least bits", y.under(0, 10, 30), 3);
        RainWheel z = Check.told("load 60;board 3;board 3;board 5;", "");
        check.due("one of higher bits ahead of two of lower", z.under(0, 10, 70), 4);
        RainWheel all = Check.told("load 9;yard 0 1;" + "board 1;".repeat(3) + "board 2;".repeat(3), "");
        // 9 by 10 is 0, 9 by 8 is 1: six boards keep it below 1 where nothing bears.
        RainWheel swamp = Check.told("load 9;yard 0 0;" + "board 1;".repeat(3) + "board 2;".repeat(3), "");
        check.due("all six", swamp.under(0, 1, 0), 63);
        check.due("two of them", all.under(0, 1, 0), 24);
        check.improper("yard", () -> x.under(60, 0, 0));
        check.improper("yard", () -> x.under(-1, 0, 0));
        check.improper("minutes", () -> x.under(0, 241, 0));
        check.improper("minutes", () -> x.under(0, -1, 0));
        check.improper("depth", () -> x.under(0, 0, 10000));
        check.improper("depth", () -> x.under(0, 0, -1));
        check.due("refused", x.status(1), 6);
    }

    private void push() {
        RainWheel x = Check.told("load 10;board 9;yard 20 5;yard 30 9;yard 12 4;", "");
        // In 10 minutes: 70, but 60 at 12, 50 at 20, 10 at 30.
        check.due("where", x.push(25, 1, 10, 0), 30);
        check.due("together", x.push(25, 1, 10, 1), 15);
        check.due("by 10", x.push(25, 10, 10, 0), 30);
        check.due("60", x.push(25, 10, 10, 1), 60);
        check.due("by 13", x.push(25, 13, 10, 0), 25);
        check.due("70", x.push(25, 13, 10, 1), 70);
        check.due("alike by 12: the first", x.push(25, 12, 10, 0), 25);
        check.due("alike: 20 by 0 and ten minutes", x.push(12, 99, 10, 0), 12);
        check.due("for nothing", x.push(25, 0, 10, 0), 30);
        check.due("alike: the first yard of all", x.push(25, 0, 0, 0), 0);
        check.due("stays", x.push(25, 1, 0, 0), 25);
        RainWheel y = Check.told("yard 10 8;yard 20 8;", "");
        check.due("as far back as on: the first", y.push(15, 1, 9, 0), 10);
        check.due("5 and 9 by 12", y.push(15, 1, 9, 1), 5 + 9 * 12);
        check.improper("yard", () -> x.push(60, 0, 0, 0));
        check.improper("yard", () -> x.push(-1, 0, 0, 0));
        check.improper("c", () -> x.push(0, 100, 0, 0));
        check.improper("c", () -> x.push(0, -1, 0, 0));
        check.improper("minutes", () -> x.push(0, 0, 241, 0));
        check.improper("minutes", () -> x.push(0, 0, -1, 0));
        check.improper("what", () -> x.push(0, 0, 0, 2));
        check.improper("what", () -> x.push(0, 0, 0, -1));
        check.due("refused", x.status(1), 8);
    }

    private void fraction(String what, long above, long below, long wantAbove, long wantBelow) {
        check.due(what + " above", above, wantAbove);
        check.due(what + " below", below, wantBelow);
    }

    private void tries() {
        RainWheel x = Check.told("nut 6;nut 15;nut 0;", "");
        fraction("4 of 16 once", x.tries(0, 1, 5, 0), x.tries(0, 1, 5, 1), 1, 4);
        fraction("twice", x.tries(0, 2, 5, 0), x.tries(0, 2, 5, 1), 7, 16);
        fraction("seven times", x.tries(0, 7, 5, 0), x.tries(0, 7, 5, 1), 16384 - 2187, 16384);
        fraction("1 of 16 seven times", x.tries(1, 7, 8, 0), x.tries(1, 7, 8, 1), 268435456L - 170859375L, 268435456L);
        fraction("no tries", x.tries(0, 0, 18, 0), x.tries(0, 0, 18, 1), 0, 1);
        fraction("too rusty", x.tries(1, 7, 7, 0), x.tries(1, 7, 7, 1), 0, 1);
        fraction("16 at most", x.tries(2, 1, 18, 0), x.tries(2, 1, 18, 1), 1, 1);
        fraction("16 just so", x.tries(2, 1, 8, 0), x.tries(2, 1, 8, 1), 1, 1);
        fraction("not below 0", x.tries(1, 3, 0, 0), x.tries(1, 3, 0, 1), 0, 1);
        check.missing("no nut", () -> x.tries(3, 0, 0, 0));
        check.missing("no nut, ahead of others", () -> x.tries(-1, 9, 99, 9));
        check.improper("n", () -> x.tries(0, 8, 0, 0));
        check.improper("n", () -> x.tries(0, -1, 0, 0));
        check.improper("s", () -> x.tries(0, 0, 19, 0));
        check.improper("s", () -> x.tries(0, 0, -1, 0));
        check.improper("part", () -> x.tries(0, 0, 0, 2));
        check.improper("part", () -> x.tries(0, 0, 0, -1));
        check.due("refused", x.status(0), 2);
        check.due("refused", x.status(1), 6);
    }

    private void half() {
        RainWheel x = Check.told("nut 6;nut 15;", "");
        check.due("4 of 16: 1 - 27/64", x.half(0, 5), 3);
        check.due("8 of 16: just as likely as not", x.half(0, 7), 1);
        check.due("6 of 16: 39/64", x.half(0, 6), 2);
        check.due("2 of 16: 1 - 0.875 to the 6th is 0.55", x.half(0, 4), 6);
        check.due("1 of 16: 0.36 at 7", x.half(1, 8), -1);
        check.due("never", x.half(0, 3), -1);
        check.due("at once", x.half(0, 18), 1);
        check.missing("no nut", () -> x.half(2, 0));
        check.missing("no nut, ahead of s", () -> x.half(-1, -1));
        check.improper("s", () -> x.half(0, 19));
        check.improper("s", () -> x.half(0, -1));
    }

    private void easiest() {
        RainWheel x = Check.told("nut 6;nut 3;nut 3;nut 2;", "");
        check.due("the least rust", x.easiest(5), 3);
        check.due("none moves: the first", x.easiest(1), 0);
        check.due("only one moves", x.easiest(2), 3);
        check.due("all are sure: the first", x.easiest(18), 0);
        check.due("all but the first are sure", x.easiest(10), 1);
        check.improper("s", () -> x.easiest(19));
        check.improper("s", () -> x.easiest(-1));
        RainWheel y = Check.fresh();
        check.due("none", y.easiest(9), -1);
        check.improper("s, though there are none", () -> y.easiest(19));
    }

    private void waits() {
        RainWheel x = Check.told("stops 4;", "");
        fraction("no wait", x.waits(0, 10, 3, 0), x.waits(0, 10, 3, 1), 10, 1);
        fraction("one minute", x.waits(1, 10, 3, 0), x.waits(1, 10, 3, 1), 37, 4);
        fraction("two", x.waits(2, 10, 3, 0), x.waits(2, 10, 3, 1), 139, 16);
        RainWheel never = Check.told("stops 0;", "");
        fraction("never", never.waits(8, 240, 0, 0), never.waits(8, 240, 0, 1), 248, 1);
        RainWheel ever = Check.told("stops 16;", "");
        fraction("in the first", ever.waits(8, 240, 7, 0), ever.waits(8, 240, 7, 1), 8, 1);
        RainWheel once = Check.told("stops 1;", "");
        // h 0, m 0: the sum of (15/16)^k for k 0 to 7 is 16 less 16 times (15/16)^8.
        fraction("eight", once.waits(8, 0, 0, 0), once.waits(8, 0, 0, 1), 4294967296L - 2562890625L, 268435456L);
        check.improper("w", () -> x.waits(9, 0, 0, 0));
        check.improper("w", () -> x.waits(-1, 0, 0, 0));
        check.improper("m", () -> x.waits(0, 241, 0, 0));
        check.improper("m", () -> x.waits(0, -1, 0, 0));
        check.improper("h", () -> x.waits(0, 0, 241, 0));
        check.improper("h", () -> x.waits(0, 0, -1, 0));
        check.improper("part", () -> x.waits(0, 0, 0, 2));
        check.improper("part", () -> x.waits(0, 0, 0, -1));
        check.due("refused", x.status(1), 8);
    }

    private void await() {
        RainWheel x = Check.told("stops 4;", "");
        // A minute more costs 1 and by a quarter saves what m is above h: from 4 on it is alike.
        check.due("alike: the least", x.await(7, 3), 0);
        check.due("worth it", x.await(8, 3), 8);
        check.due("not worth it", x.await(3, 3), 0);
        check.due("nothing to gain", x.await(0, 240), 0);
        RainWheel never = Check.told("stops 0;", "");
        check.due("never", never.await(240, 0), 0);
        RainWheel ever = Check.told("stops 16;", "");
        check.due("one is enough", ever.await(240, 0), 1);
        check.improper("m", () -> x.await(241, 0));
        check.improper("m", () -> x.await(-1, 0));
        check.improper("h", () -> x.await(0, 241));
        check.improper("h", () -> x.await(0, -1));
    }

    private void cross() {
        RainWheel x = Check.fresh();
        int[] lacks = {0, 1, 0, 2};
        int[] rows = {123, 1324, 13524, 142536};
        for (int n = 3; n <= 6; n++) {
            check.due("cross 0 of " + n, x.cross(n, 0), lacks[n - 3]);
            check.due("cross 1 of " + n, x.cross(n, 1), rows[n - 3]);
            check.due("crooked of it", x.crooked(rows[n - 3]), lacks[n - 3]);
        }
        check.improper("n", () -> x.cross(2, 0));
        check.improper("n", () -> x.cross(7, 0));
        check.improper("what", () -> x.cross(3, 2));
        check.improper("what", () -> x.cross(3, -1));
    }

    private void crooked() {
        RainWheel x = Check.fresh();
        check.due("321", x.crooked(321), 0);
        check.due("1234", x.crooked(1234), 3);
        check.due("1423", x.crooked(1423), 2);
        check.due("12345", x.crooked(12345), 4);
        check.due("51423", x.crooked(51423), 2);
        check.due("123456", x.crooked(123456), 10);
        check.due("162534", x.crooked(162534), 2 + 1 + 0 + 1 + 2);
        int[] none = {0, 12, 21, 99, 100, 122, 124, 112, 102, 1224, 1235, 12346, 123457, 1234567, 999999, 1000000, -123, -1,
            Integer.MIN_VALUE, Integer.MAX_VALUE};
        for (int row : none) {
            check.improper("row " + row, () -> x.crooked(row));
        }
        check.due("refused", x.status(1), none.length);
    }

    private void share() {
        RainWheel x = Check.fresh();
        int[] want = {4, 3, 3, 3, 3, 2, 2, 2, 2, 1, 1, 1, 1};
        for (int k = 0; k <= 12; k++) {
            check.due("share " + k, x.share(k), want[k]);
        }
        check.improper("13", () -> x.share(13));
        check.improper("-1", () -> x.share(-1));
    }

    private void drive() {
        RainWheel x = Check.fresh();
        check.due("5 miles at 30", x.drive(5), 10);
        check.due("the 6th at 29", x.drive(6), 13);
        // 25 miles below 30 would cost 25 more; 1 pump costs 4 and keeps it above 30 for all.
        check.due("30", x.drive(30), 64);
        check.improper("0", () -> x.drive(0));
        check.improper("31", () -> x.drive(31));
        RainWheel y = Check.told("soft 0 1;", "");
        // It must have 5: one pump makes 10, 2 minutes more for the mile.
        check.due("empty", y.drive(1), 4 + 4);
        RainWheel z = Check.told("soft 4 9;", "");
        check.due("4 is too little: 14 then", z.drive(1), 4 + 2 + 2);
        RainWheel w = Check.told("soft 5 9;", "");
        check.due("5 is enough", w.drive(1), 2 + 3);
        RainWheel v = Check.told("soft 5 1;", "");
        // 5 miles: one pump 15 (2 more), 14, 13, 12, 11: 4 + 20 = 24; or two pumps: 25 (1 more) to 21: 8 + 15 = 23;
        // three: 35 to 31: 12 + 10 = 22.
        check.due("leaks each mile", v.drive(5), 22);
        check.due("three pumps", v.pumps(5), 3);
        RainWheel u = Check.told("soft 99 1;", "");
        check.due("full", u.drive(30), 60);
        check.due("the K-th mile from the first on", Check.told("soft 30 2;", "").drive(3), 2 + 2 + 3);
    }

    private void pumps() {
        RainWheel x = Check.fresh();
        check.due("none", x.pumps(6), 0);
        check.due("one", x.pumps(30), 1);
        // At the 6th to the 9th mile 1 more each, 4 in all: as good as a pump, with none.
        check.due("alike: none", x.pumps(9), 0);
        check.due("as long", x.drive(9), 22);
        check.due("one then", x.pumps(10), 1);
        check.due("24", x.drive(10), 24);
        check.improper("0", () -> x.pumps(0));
        check.improper("31", () -> x.pumps(31));
        RainWheel y = Check.told("soft 0 1;", "");
        check.due("one", y.pumps(1), 1);
    }

    private void odds() {
        RainWheel x = Check.told("cause 6 8 4 0;cause 2 16 8 8;cause 4 0 0 16;", "");
        fraction("without a book", x.odds(0, 0), x.odds(0, 1), 1, 2);
        fraction("without a book", x.odds(1, 0), x.odds(1, 1), 1, 6);
        Check.book(x, "0 1;");
        // 48, 32, 0
        fraction("sign 0", x.odds(0, 0), x.odds(0, 1), 3, 5);
        fraction("sign 0", x.odds(1, 0), x.odds(1, 1), 2, 5);
        fraction("can't be", x.odds(2, 0), x.odds(2, 1), 0, 1);
        Check.book(x, "0 0;1 0;");
        // 6*8*12 = 576, 0, 4*16*16 = 1024
        fraction("two signs not seen", x.odds(0, 0), x.odds(0, 1), 9, 25);
        fraction("two signs not seen", x.odds(2, 0), x.odds(2, 1), 16, 25);
        Check.book(x, "0 1;1 1;2 0;");
        // 6*8*4*16 = 3072, 2*16*8*8 = 2048, 0
        fraction("three signs", x.odds(1, 0), x.odds(1, 1), 2, 5);
        Check.road(x, "cause 6 8 4 0;cause 3 0 0 0;");
        Check.book(x, "2 1;");
        fraction("none can be so", x.odds(0, 0), x.odds(0, 1), 0, 1);
        check.missing("no cause", () -> x.odds(2, 0));
        check.missing("no cause, ahead of part", () -> x.odds(-1, 9));
        check.improper("part", () -> x.odds(0, 2));
        check.improper("part", () -> x.odds(0, -1));
    }

    private void likeliest() {
        RainWheel x = Check.told("cause 3 8 4 0;cause 6 4 8 8;cause 6 4 0 16;", "");
        check.due("of alike ones the first", x.likeliest(), 1);
        Check.book(x, "2 1;");
        check.due("by a sign", x.likeliest(), 2);
        Check.book(x, "0 1;");
        check.due("24, 24, 24", x.likeliest(), 0);
        Check.book(x, "2 1;1 1;0 0;");
        check.due("the only one", x.likeliest(), 1);
        Check.road(x, "cause 3 0 0 0;");
        Check.book(x, "2 1;");
        check.due("none can be so", x.likeliest(), -1);
        check.due("no causes", Check.fresh().likeliest(), -1);
    }

    private void ask() {
        RainWheel x = Check.told("cause 6 8 4 0;cause 2 16 8 8;", "");
        // Sign 0: 48 + 48; sign 1: 24 + 72; sign 2: 16 + 96.
        check.due("most is known", x.ask(), 2);
        Check.book(x, "2 0;");
        // 96 and 16: sign 0: 768 + 768; sign 1: 384 + 1152.
        check.due("alike: the first", x.ask(), 0);
        Check.book(x, "0 0;");
        check.due("of those in no line", x.ask(), 1);
        Check.book(x, "0 0;1 1;");
        check.due("the last", x.ask(), 2);
        Check.book(x, "0 0;1 1;2 1;");
        check.due("all are in lines", x.ask(), -1);
        check.due("no causes", Check.fresh().ask(), 0);
        RainWheel y = Check.told("cause 1 8 16 8;cause 1 8 0 8;", "");
        check.due("it tells all", y.ask(), 1);
    }
}
