/** The edges of a LAW's text and of what it makes of its facts, from part ==== 1. of the Terms. */
public final class LawEdgesTest extends Edges {
    private static final Teller LAW_TEXT = Check::law;

    public static void main(String[] args) {
        new LawEdgesTest().runAll();
    }

    private RainWheel law(String text) {
        return sound(LAW_TEXT, text, 1);
    }

    /** What comes out for minutes 7, hands 2, strong 11, rain 1, minute 100, out 0. */
    private void lasts(String text, int due) {
        check.due("would by '" + text + "'", law(text).would(7, 2, 11, 1, 100, 0), due);
    }

    private void faulty(String text, int kind, int place) {
        fault(LAW_TEXT, text, kind, place);
    }

    @Says("A LAW is a text of up to 150 bytes")
    void upTo150Bytes() {
        String text = "1" + "+1".repeat(73) + "+ 2";
        check.due("150 bytes", text.length(), 150);
        lasts(text, 76);
        refused("151 bytes", IMPROPER, LawEdgesTest::fullTape, x -> x.law(151));
        RainWheel x = fullTape();
        check.due("the 150th byte is read", x.law(150), -9);
        check.due("at its place", x.fault(), 149);
        check.due("one less is sound", fullTape().law(149), 1);
        check.due("one byte", law("7").would(1, 1, 1, 1, 1, 1), 7);
        lasts("(".repeat(6) + "1" + "+1".repeat(68) + ")".repeat(6), 69);
    }

    /** 149 bytes of a sound law, one that can't stand there, and ten more on the tape. */
    private static RainWheel fullTape() {
        RainWheel wheel = new RainWheel();
        Check.feed(wheel, blanks(148) + "8" + "#" + blanks(10));
        return wheel;
    }

    @Says("E, at the end nothing more")
    void nothingMore() {
        faulty("", 1, 0);
        faulty(blanks(1), 1, 1);
        faulty(blanks(150), 1, 150);
        faulty("1;", 1, 1);
        faulty("1 ;", 1, 2);
        faulty("1 1", 1, 2);
        faulty("1)", 1, 1);
        faulty("(1))", 1, 3);
        faulty("1]", 1, 1);
        faulty("1,2", 1, 1);
        faulty("least[1,2]]", 1, 10);
        faulty("minutes hands", 1, 8);
        faulty("1(2)", 1, 1);
        faulty("(1)2", 1, 3);
        lasts("5" + blanks(9), 5);
    }

    @Says("without: minutes")
    void withoutALaw() {
        RainWheel x = Check.fresh();
        for (int minutes = 1; minutes <= 30; minutes++) {
            check.due("minutes " + minutes, x.would(minutes, 2, 18, 1, 240, 1), minutes);
        }
        Check.law(x, "50");
        check.due("with one", x.would(7, 1, 1, 1, 1, 1), 50);
        x.road(0);
        check.due("without again", x.would(7, 1, 1, 1, 1, 1), 7);
    }

    @Says("LASTS: how many MINUTES a DEED lasts: what comes out, 1 at least, 99 at most")
    void atLeastOneAtMost99() {
        int[][] outcomes = {{0, 1}, {1, 1}, {2, 2}, {98, 98}, {99, 99}, {100, 99}, {999, 99}};
        for (int[] outcome : outcomes) {
            lasts("" + outcome[0], outcome[1]);
        }
        lasts("0-1", 1);
        lasts("0-999*999", 1);
        lasts("999*999", 99);
        // In a plan, too: 1 and 99 minutes one behind the other.
        RainWheel x = Check.told("person 1;deed 1 0 1 0;deed 30 0 1 0;", "0 0;1 0;");
        Check.law(x, "(minutes-1)*10");
        check.due("0 lasts 1", x.line(0, 4), 1);
        check.due("290 lasts 99", x.line(1, 4), 100);
    }

    @Says("U: N (0 to 999)")
    void numbers() {
        number(LAW_TEXT, "", 0, 999, "", 1);
        number(LAW_TEXT, "1+", 0, 999, "", 1);
        lasts("999-990", 9);
        lasts("0+3", 3);
        lasts("0".repeat(148) + "42", 42);
        faulty("0".repeat(146) + "1000", 2, 0);
        faulty("1000+x", 2, 0);
        for (String digits : new String[] {"9990", "9999", "10000", "99900", "999000000000000000000", "1000000000000000000999"}) {
            faulty(digits, 2, 0);
        }
        faulty("2*least[5,1000]", 2, 10);
    }

    @Says("E: T { + or - T }. T: U { * or / U }.")
    void sumsAndProducts() {
        lasts("9-3-2", 4);
        lasts("9-3+2", 8);
        lasts("48/4/3", 4);
        lasts("48/4*3", 36);
        lasts("7*9/2", 31);
        lasts("2+3*4-6/2", 11);
        lasts("1+2*3/4-5*0+6", 8);
        for (String text : new String[] {"+", "-", "*", "/", "+1", "-1", "*1", "/1"}) {
            faulty(text, 1, 0);
        }
        for (String text : new String[] {"1+", "1-", "1*", "1/", "1+ ", "1*   "}) {
            faulty(text, 1, text.length());
        }
        for (String text : new String[] {"1++1", "1+-1", "1*/1", "1/*1", "1-*1"}) {
            faulty(text, 1, 2);
        }
        faulty("1%1", 1, 1);
        faulty("1^1", 1, 1);
    }

    @Says({"\"minutes\" (M), \"hands\" (H)", "\"out\" (O)"})
    void factsOfTheDeed() {
        // By 2 hands, out, 7 minutes; by 1 hand, not out, 30 minutes: each fact is that of the line's own deed.
        RainWheel x = Check.told("person 3;person 4;deed 7 1 2 0;deed 30 0 1 0;", "0 0 1;1 0;");
        String[] words = {"minutes", "hands", "out+1", "minutes*hands+out"};
        int[][] due = {{7, 30}, {2, 1}, {2, 1}, {15, 30}};
        for (int k = 0; k < words.length; k++) {
            Check.law(x, words[k]);
            check.due(words[k] + " of deed 0", x.line(0, 4), due[k][0]);
            check.due(words[k] + " of deed 1", x.line(1, 4) - x.line(1, 3), due[k][1]);
            check.due(words[k] + " would", x.would(7, 2, 5, 0, 9, 1), due[k][0]);
        }
        faulty("minutess", 1, 0);
        faulty("minut", 1, 0);
        faulty("2*hand", 1, 2);
        faulty("2*outs", 1, 2);
        faulty("Minutes", 1, 0);
        faulty("minutes hands", 1, 8);
    }

    @Says("\"rain\" (1, if it rains in the MINUTE in which it begins and it is out, else 0)")
    void rainAsItBegins() {
        // Deed 0 lets deed 1 begin in minute 4 to 7; it rains in 5 and 6; deed 1 lasts 30 by rain, else 3.
        for (int out = 0; out < 2; out++) {
            for (int begin = 4; begin <= 7; begin++) {
                RainWheel x = Check.told("person 1;deed " + begin + " 0 1 0;deed 3 " + out + " 1 0;rain 5 6;", "0 0;1 0;");
                Check.law(x, "minutes+rain*27");
                boolean wet = out == 1 && (begin == 5 || begin == 6);
                check.due("out " + out + ", from " + begin, x.line(1, 4), begin + (wet ? 30 : 3));
            }
        }
        // Rain that begins only while the deed lasts does not count; nor is there rain behind minute 240.
        String deeds = "person 1;" + "deed 30 0 1 0;".repeat(8) + "deed 1 1 1 0;";
        RainWheel last = Check.told(deeds + "rain 240 240;", "0 0;1 0;2 0;3 0;4 0;5 0;6 0;7 0;8 0;");
        Check.law(last, "minutes+rain*8");
        check.due("begins in 240", last.line(8, 3), 240);
        check.due("in its rain", last.line(8, 4), 249);
        RainWheel behind = Check.told("person 1;deed 1 0 1 0;" + "deed 30 0 1 0;".repeat(8) + "deed 1 1 1 0;rain 0 240;",
            "0 0;1 0;2 0;3 0;4 0;5 0;6 0;7 0;8 0;9 0;");
        Check.law(behind, "minutes+rain*8");
        check.due("begins in 241", behind.line(9, 3), 241);
        check.due("dry", behind.line(9, 4), 242);
    }

    @Says("\"strong\" (of those who do it, together)")
    void strongTogether() {
        RainWheel x = Check.told("person 9;person 9;person 1;deed 1 0 2 0;deed 1 0 2 0;deed 1 0 1 0;", "0 0 1;1 0 2;2 2;");
        Check.law(x, "strong");
        check.due("18", x.line(0, 4), 18);
        check.due("10", x.line(1, 4), 28);
        check.due("1", x.line(2, 4), 29);
    }

    @Says("\"minute\" (in which it begins)")
    void minuteBeyond240() {
        RainWheel x = Check.told("person 1;" + "deed 1 0 1 0;".repeat(5), "0 0;1 0;2 0;3 0;4 0;");
        Check.law(x, "most[99-minute*99,minute/3+1]");
        // Begins 0, 99, 133, 178, 238: 99, then 34, 45, 60, 80 long.
        int[] ends = {99, 133, 178, 238, 318};
        for (int k = 0; k < 5; k++) {
            check.due("line " + k, x.line(k, 4), ends[k]);
        }
        RainWheel y = Check.told("person 1;" + "deed 1 0 1 0;".repeat(4), "0 0;1 0;2 0;3 0;");
        Check.law(y, "most[99-minute/9,minute-240]");
        // 0 to 99; 99 to 187; 187 to 266; in 266: 99 less 29 are 70, 26 is less.
        check.due("a minute above 240 is told as it is", y.line(3, 4), 266 + 70);
    }

    @Says("\"least\" \"[\" E \",\" E \"]\", \"most\" \"[\" E \",\" E \"]\", or \"(\" E \")\"")
    void leastAndMost() {
        lasts("least[3,4]", 3);
        lasts("least[4,3]", 3);
        lasts("least[4,4]", 4);
        lasts("most[3,4]", 4);
        lasts("most[4,3]", 4);
        lasts("most[0-5,0-6]+9", 4);
        lasts("least[0-5,0-6]+9", 3);
        lasts("least[1+2*3,most[2,5]*4]", 7);
        lasts("  least  [  3  ,  4  ]  ", 3);
        lasts("  (  3  )  ", 3);
        cutShort(LAW_TEXT, "least[3,4]", 1);
        cutShort(LAW_TEXT, "most  [ 3 ,4 ]", 1);
        cutShort(LAW_TEXT, "((3)*2)", 1);
        faulty("least(3,4)", 1, 5);
        faulty("least 3,4", 1, 6);
        faulty("least[3;4]", 1, 7);
        faulty("least[3]", 1, 7);
        faulty("least[,4]", 1, 6);
        faulty("least[3,]", 1, 8);
        faulty("least[3,4,5]", 1, 9);
        faulty("least[3,4)", 1, 9);
        faulty("(3]", 1, 2);
        faulty("(3,4)", 1, 2);
        faulty("[3]", 1, 0);
        faulty("()", 1, 1);
    }

    @Says("Values are whole numbers of 32 bits that wrap")
    void wrapAround() {
        // 2 to the 31st is 2 by 32 six times over; as 32 bits it is the least number there is.
        String least = "2*32*32*32*32*32*32";
        lasts("7+" + least, 1);
        lasts("0-1+" + least, 99);
        lasts("(" + least + ")/999/999/999+9", 7);
        lasts("(" + least + "-1)/999/999/99", 21);
        lasts(least + "*2+5", 5);
        lasts("0-" + least, 1);
        lasts("0-" + least + "-1", 99);
        lasts("3+(0-(" + least + "))/(0-1)", 1);
        lasts("(" + least + ")/(0-1)-1", 99);
        // 999 to the 4th is 231 by 2 to the 32nd and 3,868,550,625 more, which is -426,416,671 in 32 bits.
        lasts("999*999*999*999/999/999+430", 3);
        lasts("minute*minute*minute*minute*minute/99/99/99/99", 14);
    }

    @Says("/ cuts, by 0 it is 0")
    void division() {
        lasts("99/100+4", 4);
        lasts("100/100+4", 5);
        lasts("7/2", 3);
        lasts("10+(0-7)/2", 7);
        lasts("10+7/(0-2)", 7);
        lasts("10+(0-7)/(0-2)", 13);
        lasts("10-(0-1)/2", 10);
        lasts("5/0+6", 6);
        lasts("0/0+6", 6);
        lasts("9+5/out", 9);
        lasts("9+5/(3-3)*7", 9);
        lasts("9+(2*32*32*32*32*32*32)/0", 9);
        lasts("most[8/0,3]", 3);
    }

    @Says("or a 7th of ( least most that is open at one time")
    void aSeventh() {
        String[] opens = {"(", "least[", "most["};
        for (String open : opens) {
            String close = open.equals("(") ? ")" : ",9]";
            lasts(open.repeat(6) + "8" + close.repeat(6), open.equals("most[") ? 9 : 8);
            for (String seventh : opens) {
                faulty(open.repeat(6) + seventh + "8", 3, 6 * open.length());
                faulty(open.repeat(6) + blanks(2) + seventh, 3, 6 * open.length() + 2);
                faulty(open.repeat(6) + "1+" + seventh, 3, 6 * open.length() + 2);
            }
        }
        lasts("(((" + "least[5,".repeat(3) + "4" + "]".repeat(3) + ")))", 4);
        faulty("(((" + "least[5,".repeat(3) + "most[1,2]" + "]".repeat(3) + ")))", 3, 27);
        faulty("((((((least", 3, 6);
        faulty("((((((most 5", 3, 6);
        // What is closed is open no more.
        lasts("(1)+".repeat(7) + "1", 8);
        lasts("((((((1)))+(((1))))+((((1))))))", 3);
        lasts("((((((1)+(2))))+(((3)))))", 6);
        lasts("least[1,2]+".repeat(6) + "most[3,4]", 10);
        lasts("least[((((( 1 ))))),((((( 2 )))))]", 1);
        faulty("((((((1)+((2))))))", 3, 10);
        faulty("least[((((( 1 ))))),(((((( 2 ))))))]", 3, 25);
    }

    @Says("WORDS: small letters, as many as stand there")
    void words() {
        lasts("minutes", 7);
        lasts("minute/10", 10);
        lasts("hands", 2);
        lasts("strong", 11);
        lasts("rain*5", 5);
        lasts("out*5+3", 3);
        for (String word : new String[] {"minutess", "minut", "hand", "handsout", "strongs", "rains", "ou", "outs", "leasts", "mos", "Out", "deed", "outz", "outa", "zout"}) {
            faulty(word, 1, 0);
            faulty("1+ " + word, 1, 3);
        }
        faulty("minuteS", 1, 6);
        faulty("out1", 1, 3);
        lasts("1+hands*minutes-out", 15);
    }
}
