/** The edges of part ==== 3. of the Terms (but for evenings) and of promises 25 to 40. */
public final class ToolEdgesTest extends Edges {
    public static void main(String[] args) {
        new ToolEdgesTest().runAll();
    }

    private static RainWheel road(String text) {
        return Check.told(text, "");
    }

    private void fraction(String what, long above, long below, long dueAbove, long dueBelow) {
        check.due(what + ", above", above, dueAbove);
        check.due(what + ", below", below, dueBelow);
    }

    // ---- the jack: promises 25 to 27 ----

    @Says("SINKS: a jack on told BOARDS (bits) at a YARD: each MINUTE by LOAD by 1 and all their BROADS (cut), less what the ground BEARS (0 at least)")
    void sinking() {
        RainWheel x = road("load 23;board 1;board 2;yard 1 0;yard 3 20;yard 4 11;yard 5 12;");
        check.due("on no boards: 23 less 3", x.sinks(0, 0, 1), 20);
        check.due("cut: 23 by 2 is 11", x.sinks(1, 1, 1), 11);
        check.due("cut: 23 by 3 is 7", x.sinks(1, 2, 1), 7);
        check.due("cut: 23 by 4 is 5", x.sinks(1, 3, 1), 5);
        check.due("each minute is cut, not the sum", x.sinks(1, 1, 2), 22);
        check.due("3 more than it bears", x.sinks(3, 0, 1), 3);
        check.due("just what it bears", x.sinks(4, 1, 1), 0);
        check.due("0 at least", x.sinks(5, 1, 240), 0);
        RainWheel most = road("load 99;yard 9 0;" + "board 9;".repeat(6));
        check.due("the most of all", most.sinks(9, 0, 240), 23760);
        check.due("99 by 55 is 1", most.sinks(9, 63, 240), 240);
        RainWheel least = road("load 1;yard 9 0;board 1;");
        check.due("1 by 1", least.sinks(9, 0, 1), 1);
        check.due("1 by 2 is 0", least.sinks(9, 1, 1), 0);
    }

    @Says(promise = 25, value = {"SINKS on told BOARDS at a YARD in so many MINUTES (0 to 240)", "IllegalArgumentException: bits of no BOARDS, too"})
    void sinks() {
        range("sinks yard", 0, 59, (x, yard) -> x.sinks(yard, 0, 0));
        range("sinks boards", 0, 3, (x, boards) -> x.sinks(0, boards, 0));
        range("sinks minutes", 0, 240, (x, minutes) -> x.sinks(0, 0, minutes));
        check.due("no minutes", road("load 99;").sinks(0, 0, 0), 0);
        check.due("240", road("load 99;").sinks(0, 0, 240), 23040);
        for (int many = 0; many <= 6; many++) {
            RainWheel x = road("board 1;".repeat(many));
            check.due("all " + many, x.sinks(0, (1 << many) - 1, 1), Math.max(0, 20 / (1 + many) - 3));
            int bits = 1 << many;
            check.improper("a bit beyond " + many, () -> x.sinks(0, bits, 1));
            check.improper("the highest bit", () -> x.sinks(0, Integer.MIN_VALUE, 1));
        }
    }

    @Says("UNDER for told MINUTES and a depth: the BOARDS on which it sinks no deeper: the fewest, then the least bits")
    void fewestBoards() {
        RainWheel x = road("load 40;yard 0 0;board 1;board 1;board 3;board 7;");
        // In a minute on breadth 1: 40; 2: 20; 3: 13; 4: 10; 5: 8; 6: 6; 8: 5; 9: 4; 11: 3; 13: 3.
        int[][] due = {{40, 0}, {39, 1}, {20, 1}, {19, 4}, {10, 4}, {9, 8}, {5, 8}, {4, 9}, {3, 12}, {2, -1}};
        for (int[] pair : due) {
            check.due("no deeper than " + pair[0], x.under(0, 1, pair[0]), pair[1]);
        }
        RainWheel y = road("load 40;yard 0 0;board 1;board 1;board 1;");
        check.due("two of the least bits", y.under(0, 1, 13), 3);
        check.due("all three", y.under(0, 1, 10), 7);
        check.due("one of the least bits", y.under(0, 1, 20), 1);
        RainWheel z = road("load 40;yard 0 0;board 2;board 1;board 5;");
        check.due("one of higher bits ahead of two", z.under(0, 1, 9), 4);
        check.due("two: bits 5 ahead of 6", z.under(0, 1, 5), 5);
        check.due("two: 6 alone can't be less than 5", z.under(0, 1, 4), 7);
    }

    @Says(promise = 26, value = "UNDER at a YARD for so many MINUTES and a depth (0 to 9,999), as bits; NONE: on none")
    void under() {
        range("under yard", 0, 59, (x, yard) -> x.under(yard, 1, 1));
        range("under minutes", 0, 240, (x, minutes) -> x.under(1, minutes, 1));
        range("under depth", 0, 9999, (x, depth) -> x.under(1, 1, depth));
        RainWheel x = road("load 45;yard 0 0;");
        check.due("240 minutes by 45 are 10800", x.under(0, 240, 9999), RainWheel.NONE);
        check.due("222 minutes: 9990", x.under(0, 222, 9999), 0);
        check.due("223 minutes: 10035", x.under(0, 223, 9999), RainWheel.NONE);
        check.due("just so deep", x.under(0, 2, 90), 0);
        check.due("one deeper", x.under(0, 2, 89), RainWheel.NONE);
        check.due("in no minutes on no boards", x.under(0, 0, 0), 0);
        check.due("on none", road("load 99;board 9;yard 0 0;").under(0, 1, 0), RainWheel.NONE);
        check.due("all six", road("load 54;yard 0 0;" + "board 9;".repeat(6)).under(0, 1, 0), 63);
    }

    @Says("PUSH from a YARD by c: the YARD by which c for each yard of the way, and how far it sinks there in told MINUTES on no BOARDS, together are"
        + " least; of alike ones the first")
    void pushing() {
        RainWheel x = road("load 20;board 9;yard 10 19;yard 0 15;yard 59 20;");
        // In a minute: 17, but 1 at 10, 5 at 0, 0 at 59.
        check.due("from 10 there is nothing better", x.push(10, 1, 1, 0), 10);
        check.due("to 10", x.push(20, 1, 1, 0), 10);
        check.due("11", x.push(20, 1, 1, 1), 11);
        check.due("alike by 2 from 18: 17 there and 17 at 10", x.push(18, 2, 1, 0), 10);
        check.due("alike by 2 from 2: 9 at 0, 17 at 10", x.push(2, 2, 1, 0), 0);
        check.due("too dear", x.push(20, 2, 1, 0), 20);
        check.due("17", x.push(20, 2, 1, 1), 17);
        check.due("the last", x.push(58, 16, 1, 0), 59);
        check.due("alike: 58 itself is the first", x.push(58, 17, 1, 0), 58);
        check.due("for nothing the last, which bears all", x.push(0, 0, 1, 0), 59);
        check.due("for nothing and in no time: the first of all", x.push(40, 0, 0, 0), 0);
        check.due("in no time: it stays", x.push(40, 1, 0, 0), 40);
        check.due("no boards", x.push(30, 99, 1, 1), 17);
        RainWheel y = road("load 20;yard 20 19;yard 40 19;");
        check.due("as far to both: the first", y.push(30, 1, 1, 0), 20);
    }

    @Says(promise = 27, value = "PUSH from a YARD by c (0 to 99), MINUTES: 0 the YARD, 1 all together")
    void push() {
        range("push yard", 0, 59, (x, yard) -> x.push(yard, 1, 1, 0));
        range("push c", 0, 99, (x, c) -> x.push(1, c, 1, 0));
        range("push minutes", 0, 240, (x, minutes) -> x.push(1, 1, minutes, 0));
        range("push what", 0, 1, (x, what) -> x.push(1, 1, 1, what));
        RainWheel x = road("load 99;yard 59 20;");
        check.due("the longest way", x.push(0, 69, 240, 0), 59);
        check.due("all together: 59 by 69, and 240 by 79", x.push(0, 69, 240, 1), 4071 + 18960);
        check.due("alike by 4080: 240 by 17", x.push(0, 70, 240, 0), 0);
        check.due("41 by 99 are 4059", x.push(18, 99, 240, 0), 59);
        check.due("all together", x.push(18, 99, 240, 1), 4059 + 18960);
        check.due("42 by 99 are 4158", x.push(17, 99, 240, 0), 17);
        check.due("240 by 96", x.push(17, 99, 240, 1), 23040);
    }

    // ---- tries, waits: promises 28 to 32 ----

    @Says("A TRY at a NUT by STRENGTH s: it comes loose by 2 s less RUST of 16 (0 at least, 16 at most)")
    void aTry() {
        RainWheel x = road("nut 0;nut 1;nut 15;");
        fraction("0 of 16", x.tries(0, 1, 0, 0), x.tries(0, 1, 0, 1), 0, 1);
        fraction("2 of 16", x.tries(0, 1, 1, 0), x.tries(0, 1, 1, 1), 1, 8);
        fraction("1 of 16", x.tries(1, 1, 1, 0), x.tries(1, 1, 1, 1), 1, 16);
        fraction("0 at least", x.tries(1, 1, 0, 0), x.tries(1, 1, 0, 1), 0, 1);
        fraction("14 less 15: 0 at least", x.tries(2, 7, 7, 0), x.tries(2, 7, 7, 1), 0, 1);
        fraction("16 less 15", x.tries(2, 1, 8, 0), x.tries(2, 1, 8, 1), 1, 16);
        fraction("15 of 16", x.tries(1, 1, 8, 0), x.tries(1, 1, 8, 1), 15, 16);
        fraction("16 of 16", x.tries(0, 1, 8, 0), x.tries(0, 1, 8, 1), 1, 1);
        fraction("17: 16 at most", x.tries(1, 1, 9, 0), x.tries(1, 1, 9, 1), 1, 1);
        fraction("36: 16 at most", x.tries(0, 7, 18, 0), x.tries(0, 7, 18, 1), 1, 1);
        fraction("21: 16 at most", x.tries(2, 1, 18, 0), x.tries(2, 1, 18, 1), 1, 1);
    }

    @Says(promise = 28, value = "How likely a NUT is loose behind n TRIES (0 to 7) by STRENGTH s (0 to 18): above (part 0), below (part 1), in least terms"
        + " (so below)")
    void tries() {
        elements("tries nut", 2, (x, nut) -> x.tries(nut, 1, 1, 0));
        range("tries n", 0, 7, (x, n) -> x.tries(1, n, 1, 0));
        range("tries s", 0, 18, (x, s) -> x.tries(1, 1, s, 0));
        range("tries part", 0, 1, (x, part) -> x.tries(1, 1, 1, part));
        RainWheel x = road("nut 0;nut 1;" + "nut 15;".repeat(6));
        for (int s = 0; s <= 18; s += 9) {
            fraction("behind none", x.tries(0, 0, s, 0), x.tries(0, 0, s, 1), 0, 1);
        }
        // 15 of 16 seven times: all but 1 of 16 to the 7th.
        fraction("seven", x.tries(1, 7, 8, 0), x.tries(1, 7, 8, 1), 268435455L, 268435456L);
        // 8 of 16 seven times: 127 of 128.
        fraction("least terms", x.tries(0, 7, 4, 0), x.tries(0, 7, 4, 1), 127, 128);
        fraction("the eighth nut", x.tries(7, 1, 8, 0), x.tries(7, 1, 8, 1), 1, 16);
        check.missing("a ninth", () -> x.tries(8, 1, 1, 0));
    }

    @Says(promise = 29, value = "By how many TRIES it is loose as likely as not, at least (1 to 7); NONE: by no such number")
    void half() {
        elements("half nut", 2, (x, nut) -> x.half(nut, 1));
        range("half s", 0, 18, (x, s) -> x.half(1, s));
        RainWheel even = road("nut 0;");
        RainWheel odd = road("nut 1;");
        // By 0, 1, 2 .. of 16: what stays, to the n-th, is a half or less.
        int[] due = {-1, -1, 6, 4, 3, 2, 2, 2, 1};
        for (int of16 = 0; of16 <= 8; of16++) {
            RainWheel x = of16 % 2 == 0 ? even : odd;
            check.due("by " + of16 + " of 16", x.half(0, (of16 + 1) / 2), due[of16]);
        }
        check.due("surely", even.half(0, 18), 1);
        check.due("never", odd.half(0, 0), RainWheel.NONE);
    }

    @Says(promise = 30, value = "The NUT that is loosened first most likely by STRENGTH s, of these the first; NONE: there are none")
    void easiest() {
        range("easiest s", 0, 18, (x, s) -> x.easiest(s));
        RainWheel x = road("nut 9;nut 8;nut 8;nut 7;");
        check.due("none moves: the first", x.easiest(0), 0);
        check.due("none moves: the first", x.easiest(3), 0);
        check.due("one moves", x.easiest(4), 3);
        check.due("by 13, 14, 14, 15 of 16", x.easiest(11), 3);
        check.due("three are sure: the first of them", x.easiest(12), 1);
        check.due("all are sure: the first", x.easiest(13), 0);
        check.due("all are sure: the first", x.easiest(18), 0);
        changesNothing("none", RainWheel::new, RainWheel.NONE, y -> y.easiest(18));
        refused("s, though there are none", IMPROPER, RainWheel::new, y -> y.easiest(19));
        check.due("the eighth", road("nut 15;".repeat(7) + "nut 0;").easiest(3), 7);
    }

    @Says("WAIT w MINUTES, m to do it then, h if a car has stopped: in each of w MINUTES a car stops as told: then h more;"
        + " else, behind them, m: the mean of all MINUTES")
    void waiting() {
        RainWheel half = road("stops 8;");
        // One minute: half 1 and h, half 1 and m; two: half 1 and h, a quarter 2 and h, a quarter 2 and m.
        fraction("none", half.waits(0, 9, 4, 0), half.waits(0, 9, 4, 1), 9, 1);
        fraction("one", half.waits(1, 9, 4, 0), half.waits(1, 9, 4, 1), 15, 2);
        fraction("two", half.waits(2, 9, 4, 0), half.waits(2, 9, 4, 1), 27, 4);
        RainWheel never = road("stops 0;");
        fraction("none ever stops", never.waits(8, 9, 4, 0), never.waits(8, 9, 4, 1), 17, 1);
        RainWheel ever = road("stops 16;");
        fraction("in the first minute", ever.waits(8, 9, 4, 0), ever.waits(8, 9, 4, 1), 5, 1);
        fraction("but not in none", ever.waits(0, 9, 4, 0), ever.waits(0, 9, 4, 1), 9, 1);
    }

    @Says(promise = 31, value = "The mean of WAIT w (0 to 8), m, h (0 to 240)")
    void waits() {
        range("waits w", 0, 8, (x, w) -> x.waits(w, 1, 1, 0));
        range("waits m", 0, 240, (x, m) -> x.waits(1, m, 1, 0));
        range("waits h", 0, 240, (x, h) -> x.waits(1, 1, h, 0));
        range("waits part", 0, 1, (x, part) -> x.waits(1, 1, 1, part));
        RainWheel x = road("stops 1;");
        fraction("nothing at all", x.waits(0, 0, 0, 0), x.waits(0, 0, 0, 1), 0, 1);
        fraction("240", x.waits(0, 240, 240, 0), x.waits(0, 240, 240, 1), 240, 1);
        // Eight minutes at most: 16 less 16 times (15/16)^8 on the mean; then 240 in any case.
        long below = 268435456L;
        fraction("the most of all", x.waits(8, 240, 240, 0), x.waits(8, 240, 240, 1), 4294967296L - 2562890625L + 240 * below, below);
        fraction("h alone", x.waits(1, 0, 240, 0), x.waits(1, 0, 240, 1), 16, 1);
        fraction("m alone", x.waits(1, 240, 0, 0), x.waits(1, 240, 0, 1), 226, 1);
    }

    @Says("BEST WAIT: the w (0 to 8) of the least mean; of these the least")
    void bestWait() {
        // A minute costs 1 and saves, by Q of 16, what m is above h.
        for (int q = 1; q <= 15; q++) {
            RainWheel x = road("stops " + q + ";");
            for (int m = 0; m <= 40; m++) {
                check.due("stops " + q + ", m " + m, x.await(m, 0), q * m > 16 ? 8 : 0);
            }
        }
        RainWheel ever = road("stops 16;");
        check.due("alike: none", ever.await(1, 0), 0);
        check.due("one is enough", ever.await(2, 0), 1);
        RainWheel never = road("stops 0;");
        check.due("never", never.await(240, 0), 0);
    }

    @Says(promise = 32, value = "BEST WAIT by m, h")
    void await() {
        range("await m", 0, 240, (x, m) -> x.await(m, 1));
        range("await h", 0, 240, (x, h) -> x.await(1, h));
        RainWheel x = road("stops 1;");
        check.due("alike: 16 above", x.await(240, 224), 0);
        check.due("17 above", x.await(240, 223), 8);
        check.due("nothing to do", x.await(0, 0), 0);
        check.due("the most of both", x.await(240, 240), 0);
        check.due("h above m", x.await(0, 240), 0);
    }

    // ---- nuts in a ring, shared nuts: promises 33 to 35 ----

    @Says("CROSSWISE: rows of all n NUTS of a wheel (3 to 6, in a ring): CROOKED by how far each is from the one tightened ahead of it"
        + " (the shorter way round), less than half of n (cut): what lacks, together: the least; of alike rows the first")
    void crosswise() {
        RainWheel x = new RainWheel();
        for (int n = 3; n <= 6; n++) {
            int[] best = bestRow("", n, new int[] {Integer.MAX_VALUE, 0});
            check.due("how crooked: " + n, x.cross(n, 0), best[0]);
            check.due("the row: " + n, x.cross(n, 1), best[1]);
            check.due("it is so crooked: " + n, x.crooked(best[1]), best[0]);
        }
        check.due("the shorter way round: 1 to 6 is 1", x.crooked(162534), 6);
        check.due("half of 5 is 2", x.crooked(13524), 0);
        check.due("half of 3 is 1", x.crooked(213), 0);
        check.due("half of 4 is 2", x.crooked(1324), 1);
        check.due("half of 6 is 3", x.crooked(142536), 2);
    }

    /** All rows in their order, as numbers: the first of the least crooked. */
    private static int[] bestRow(String row, int n, int[] best) {
        if (row.length() == n) {
            int lacks = lacks(row);
            return lacks < best[0] ? new int[] {lacks, Integer.parseInt(row)} : best;
        }
        int[] sofar = best;
        for (int nut = 1; nut <= n; nut++) {
            if (row.indexOf('0' + nut) < 0) {
                sofar = bestRow(row + nut, n, sofar);
            }
        }
        return sofar;
    }

    private static int lacks(String row) {
        int n = row.length();
        int all = 0;
        for (int k = 1; k < n; k++) {
            int one = Math.floorMod(row.charAt(k) - row.charAt(k - 1), n);
            all += Math.max(0, n / 2 - Math.min(one, n - one));
        }
        return all;
    }

    @Says(promise = 33, value = "CROSSWISE of n (3 to 6): 0 how CROOKED, 1 the row, as digits to the base 10 (NUT 1 to n; the first the highest)")
    void cross() {
        range("cross n", 3, 6, (x, n) -> x.cross(n, 0));
        range("cross what", 0, 1, (x, what) -> x.cross(3, what));
        int[] rows = {123, 1324, 13524, 142536};
        int[] lacks = {0, 1, 0, 2};
        RainWheel x = new RainWheel();
        for (int n = 3; n <= 6; n++) {
            check.due("row of " + n, x.cross(n, 1), rows[n - 3]);
            check.due("lacks of " + n, x.cross(n, 0), lacks[n - 3]);
        }
    }

    @Says(promise = 34, value = {"How CROOKED a row is (digits 1 to n, each once; n 3 to 6 by how many digits)", "IllegalArgumentException: another row"})
    void crooked() {
        for (int row = 0; row < 10000; row++) {
            crookedOf(row);
        }
        int[] more = {12345, 54321, 12346, 11345, 10234, 99999, 10000, 123456, 654321, 123457, 112345, 102345, 100000, 999999, 1000000,
            1234567, 7654321, 2147483647, -1, -123, -1324, -654321, Integer.MIN_VALUE, 123 + 1000, 213, 312, 132};
        for (int row : more) {
            crookedOf(row);
        }
        for (int row : new int[] {-1, 0, 12, 21, 122, 124, 1235, 12346, 123457, 1234567, Integer.MAX_VALUE, Integer.MIN_VALUE}) {
            improper("row " + row, x -> x.crooked(row));
        }
        for (int row : new int[] {123, 321, 1234, 4321, 12345, 54321, 123456, 654321}) {
            changesNothing("row " + row, Edges::rich, lacks("" + row), x -> x.crooked(row));
        }
    }

    private RainWheel rows = new RainWheel();
    private int rowsAsked = 0;

    private void crookedOf(int row) {
        // No object is used for more than 512 calls.
        rowsAsked++;
        if (rowsAsked % 500 == 0) {
            rows = new RainWheel();
        }
        RainWheel x = rows;
        String digits = "" + row;
        boolean good = digits.length() >= 3 && digits.length() <= 6;
        for (int nut = 1; good && nut <= digits.length(); nut++) {
            good = digits.indexOf('0' + nut) >= 0;
        }
        if (good) {
            check.due("row " + row, x.crooked(row), lacks(digits));
        } else {
            check.improper("row " + row, () -> x.crooked(row));
        }
    }

    @Says("SHARE of k lost nuts, of four wheels by 4 each (k 0 to 12): the fewest that a wheel has then, the most that can be")
    void sharing() {
        // All ways to lose k nuts from four wheels of 4.
        int[] best = new int[17];
        for (int ways = 0; ways < 625; ways++) {
            int a = 4 - ways % 5;
            int b = 4 - ways / 5 % 5;
            int c = 4 - ways / 25 % 5;
            int d = 4 - ways / 125;
            int k = 16 - a - b - c - d;
            best[k] = Math.max(best[k], Math.min(Math.min(a, b), Math.min(c, d)));
        }
        RainWheel x = new RainWheel();
        for (int k = 0; k <= 12; k++) {
            check.due("share " + k, x.share(k), best[k]);
        }
    }

    @Says(promise = 35, value = "SHARE of k (0 to 12)")
    void share() {
        range("share", 0, 12, (x, k) -> x.share(k));
        RainWheel x = new RainWheel();
        int[] due = {4, 3, 3, 3, 3, 2, 2, 2, 2, 1, 1, 1, 1};
        for (int k = 0; k <= 12; k++) {
            check.due("share " + k, x.share(k), due[k]);
        }
    }

    // ---- the spare: promises 36, 37 ----

    private void ride(String soft, int miles, int minutes, int pumps) {
        RainWheel x = road("soft " + soft + ";");
        check.due("soft " + soft + ", " + miles + " miles", x.drive(miles), minutes);
        check.due("pumps of soft " + soft + ", " + miles + " miles", x.pumps(miles), pumps);
    }

    @Says("ahead of each one may pump (any times): 10 more (99 at most) in 4 MINUTES")
    void pumping() {
        // At 0 one must pump; three times are 30, which pays from so many miles on.
        ride("0 9", 1, 8, 1);
        ride("0 9", 4, 4 + 16, 1);
        ride("0 9", 5, 12 + 10, 3);
        ride("0 9", 9, 12 + 18, 3);
        // Nearly full, or full: there is nothing to gain, and no more than 99.
        ride("89 1", 30, 60, 0);
        ride("90 1", 30, 60, 0);
        ride("98 1", 30, 60, 0);
        ride("99 1", 30, 60, 0);
        // 59 lasts to the 30th mile, 58 does not: one mile more slowly, not a pump.
        ride("59 1", 30, 60, 0);
        ride("58 1", 30, 61, 0);
        ride("55 1", 30, 64, 0);
        ride("54 1", 30, 64, 1);
    }

    @Says("a mile lasts 2 MINUTES, and 1 for each 10 (begun) by which the spare is below 30")
    void aMile() {
        int[][] due = {{30, 2}, {31, 2}, {99, 2}, {29, 3}, {21, 3}, {20, 3}, {19, 4}, {11, 4}, {10, 4}, {9, 5}, {6, 5}, {5, 5}};
        for (int[] pair : due) {
            ride(pair[0] + " 9", 1, pair[1], 0);
        }
    }

    @Says("behind each K-th mile (counted from the first on) it has 1 less (0 at least)")
    void eachKthMile() {
        for (int k = 1; k <= 9; k++) {
            ride("30 " + k, k, 2 * k, 0);
            ride("30 " + k, k + 1, 2 * k + 3, 0);
            ride("31 " + k, 2 * k, 4 * k, 0);
            ride("31 " + k, 2 * k + 1, 4 * k + 3, 0);
        }
        ride("99 1", 1, 2, 0);
    }

    @Says("it must have 5 or more as a mile begins: the fewest MINUTES")
    void fiveOrMore() {
        ride("5 9", 1, 5, 0);
        ride("4 9", 1, 8, 1);
        ride("3 9", 1, 8, 1);
        ride("1 9", 1, 8, 1);
        ride("0 1", 1, 8, 1);
        // 5, then 4: a pump there, or better ahead of the first mile.
        ride("5 1", 2, 12, 1);
        ride("6 1", 2, 10, 0);
        // By K 9 it may stay at 5; from the fifth mile on three pumps pay.
        ride("5 9", 3, 15, 0);
        ride("5 9", 4, 20, 0);
        ride("5 9", 5, 22, 3);
    }

    @Says(promise = 36, value = "DRIVE of n miles: the fewest MINUTES")
    void drive() {
        range("drive", 1, 30, (x, n) -> x.drive(n));
        RainWheel x = new RainWheel();
        check.due("one mile", x.drive(1), 2);
        check.due("thirty miles", x.drive(30), 64);
        // 60 at once last to the 30th mile: six pumps.
        check.due("empty, leaking, thirty miles", road("soft 0 1;").drive(30), 24 + 60);
    }

    @Says("DRIVE of n miles (1 to 30)")
    void oneToThirtyMiles() {
        for (int p = 0; p <= 99; p++) {
            for (int k = 1; k <= 9; k += 4) {
                RainWheel x = road("soft " + p + " " + k + ";");
                for (int n = 1; n <= 30; n++) {
                    int[] due = fewest(p, k, n);
                    check.due("soft " + p + " " + k + ", " + n + " miles", x.drive(n), due[0]);
                    check.due("its pumps", x.pumps(n), due[1]);
                }
            }
        }
    }

    /** Forward over all that the spare may have as a mile begins: minutes, then pumps. */
    private static int[] fewest(int p, int k, int n) {
        int[] cost = new int[100];
        java.util.Arrays.fill(cost, Integer.MAX_VALUE);
        cost[p] = 0;
        for (int mile = 1; mile <= n; mile++) {
            for (int has = 0; has < 99; has++) {
                if (cost[has] < Integer.MAX_VALUE) {
                    int then = Math.min(99, has + 10);
                    cost[then] = Math.min(cost[then], cost[has] + 401);
                }
            }
            int[] behind = new int[100];
            java.util.Arrays.fill(behind, Integer.MAX_VALUE);
            for (int has = 5; has <= 99; has++) {
                if (cost[has] < Integer.MAX_VALUE) {
                    int lasts = 2 + (has >= 30 ? 0 : (30 - has + 9) / 10);
                    int then = Math.max(0, mile % k == 0 ? has - 1 : has);
                    behind[then] = Math.min(behind[then], cost[has] + 100 * lasts);
                }
            }
            cost = behind;
        }
        int best = java.util.Arrays.stream(cost).min().orElse(0);
        return new int[] {best / 100, best % 100};
    }

    @Says(promise = 37, value = "How often one pumps then, at least")
    void pumps() {
        range("pumps", 1, 30, (x, n) -> x.pumps(n));
        RainWheel x = new RainWheel();
        check.due("one mile", x.pumps(1), 0);
        check.due("as good without", x.pumps(9), 0);
        check.due("better with one", x.pumps(10), 1);
        check.due("thirty miles", x.pumps(30), 1);
    }

    // ---- causes: promises 38 to 40 ----

    @Says("ODDS of a CAUSE by the BOOK: Q by the odds of each SIGN as it was seen, by all CAUSES together")
    void oddsOfCauses() {
        RainWheel x = road("cause 16 16 16 16;cause 1 1 1 1;");
        fraction("without a book", x.odds(0, 0), x.odds(0, 1), 16, 17);
        Check.book(x, "0 1;1 1;2 1;");
        fraction("all seen: 65536 and 1", x.odds(0, 0), x.odds(0, 1), 65536, 65537);
        Check.book(x, "0 0;");
        fraction("16 of 16 not seen can't be", x.odds(0, 0), x.odds(0, 1), 0, 1);
        fraction("so it is the other", x.odds(1, 0), x.odds(1, 1), 1, 1);
        RainWheel most = road("cause 16 16 16 16;".repeat(4));
        Check.book(most, "0 1;1 1;2 1;");
        fraction("four of the most", most.odds(3, 0), most.odds(3, 1), 1, 4);
        RainWheel none = road("cause 16 0 0 0;".repeat(4));
        Check.book(none, "0 0;1 0;2 0;");
        fraction("none seen", none.odds(3, 0), none.odds(3, 1), 1, 4);
        check.due("one alone", road("cause 1 8 8 8;").odds(0, 0), 1);
    }

    @Says(promise = 38, value = "ODDS of a CAUSE (0 by 1: none can be so)")
    void odds() {
        elements("odds cause", 2, (x, cause) -> x.odds(cause, 0));
        range("odds part", 0, 1, (x, part) -> x.odds(1, part));
        RainWheel x = road("cause 16 0 5 5;".repeat(4));
        Check.book(x, "0 1;");
        for (int cause = 0; cause < 4; cause++) {
            fraction("none can be so", x.odds(cause, 0), x.odds(cause, 1), 0, 1);
        }
        check.missing("a fifth", () -> x.odds(4, 0));
        Check.book(x, "1 1;2 0;");
        fraction("all can be so", x.odds(2, 0), x.odds(2, 1), 1, 4);
    }

    @Says(promise = 39, value = "The likeliest CAUSE, of these the first; NONE: none can be so")
    void likeliest() {
        RainWheel x = road("cause 2 16 0 8;cause 4 8 0 8;cause 4 8 0 8;cause 3 0 0 8;");
        check.due("of alike ones the first", x.likeliest(), 1);
        Check.book(x, "0 1;");
        check.due("32 each: the first", x.likeliest(), 0);
        Check.book(x, "0 0;");
        check.due("0, 32, 32, 48", x.likeliest(), 3);
        Check.book(x, "1 1;");
        check.due("none can be so", x.likeliest(), RainWheel.NONE);
        changesNothing("no causes", RainWheel::new, RainWheel.NONE, RainWheel::likeliest);
        changesNothing("likeliest", Edges::rich, 0, RainWheel::likeliest);
        check.due("the only one, ever so little", bookOf("cause 1 1 1 1;", "0 1;1 1;2 1;").likeliest(), 0);
    }

    private static RainWheel bookOf(String road, String book) {
        RainWheel wheel = road(road);
        Check.book(wheel, book);
        return wheel;
    }

    @Says("ASK: the SIGN in no line by which most is known on the mean behind it: the sum over both answers of what the likeliest CAUSE then weighs is"
        + " greatest; of alike ones the first")
    void asking() {
        // Two causes of the same weight: a sign tells the more the further they are apart.
        check.due("sign 0", road("cause 1 16 8 8;cause 1 0 8 8;").ask(), 0);
        check.due("sign 1", road("cause 1 8 16 8;cause 1 8 0 8;").ask(), 1);
        check.due("sign 2", road("cause 1 8 8 1;cause 1 8 8 0;").ask(), 2);
        check.due("alike: the first", road("cause 1 16 0 8;cause 1 0 16 8;").ask(), 0);
        check.due("alike: 1 ahead of 2", road("cause 1 8 9 7;cause 1 8 8 8;").ask(), 1);
        check.due("one cause: all alike", road("cause 16 3 5 16;").ask(), 0);
        RainWheel x = road("cause 1 16 8 8;cause 1 0 8 8;");
        Check.book(x, "0 1;");
        check.due("not one that is in a line", x.ask(), 1);
        Check.book(x, "0 1;1 0;");
        check.due("the last", x.ask(), 2);
        // None can be so: all signs tell nothing, so the first of those in no line.
        RainWheel none = bookOf("cause 1 0 8 8;", "0 1;");
        check.due("nothing to know: the first", none.ask(), 1);
        // What is known already counts: by sign 0 the first cause weighs 0.
        RainWheel y = bookOf("cause 16 0 16 8;cause 4 16 8 0;cause 4 16 8 16;", "0 1;");
        check.due("sign 2 tells the two that are left apart", y.ask(), 2);
    }

    @Says(promise = 40, value = "ASK; NONE: all SIGNS are in lines")
    void ask() {
        changesNothing("no causes: the first", RainWheel::new, 0, RainWheel::ask);
        changesNothing("ask", Edges::rich, 2, RainWheel::ask);
        RainWheel x = new RainWheel();
        Check.book(x, "0 0;1 0;2 0;");
        check.due("all in lines", x.ask(), RainWheel.NONE);
        RainWheel y = bookOf("cause 1 2 3 4;", "2 1;0 1;1 1;");
        check.due("all in lines", y.ask(), RainWheel.NONE);
        Check.book(y, "2 1;0 1;");
        check.due("all but one", y.ask(), 1);
        Check.book(y, "");
        check.due("none", y.ask(), 0);
    }
}
