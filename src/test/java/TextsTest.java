/** Promises 1 to 13: texts, their faults, and what was told. The answers are worked out by hand from the document. */
public final class TextsTest {
    private final Check check = new Check();

    public static void main(String[] args) {
        TextsTest test = new TextsTest();
        test.newObject();
        test.feed();
        test.roads();
        test.roadFaults();
        test.tooMany();
        test.laws();
        test.lawFaults();
        test.plans();
        test.books();
        test.faults();
        test.whatWasTold();
        test.would();
        test.check.end();
    }

    private void newObject() {
        RainWheel x = Check.fresh();
        for (int what = 0; what <= 6; what++) {
            check.due("new: told " + what, x.told(what), 0);
        }
        check.due("new: load", x.told(7), 20);
        check.due("new: stops", x.told(8), 2);
        check.due("new: fault", x.fault(), -1);
        check.due("new: span", x.span(), 0);
        for (int yard = 0; yard < 60; yard++) {
            check.due("new: bears " + yard, x.bears(yard), 3);
        }
        for (int minute = 0; minute <= 240; minute++) {
            check.due("new: rains " + minute, x.rains(minute) ? 1 : 0, 0);
        }
        for (int what = 0; what < 3; what++) {
            check.due("new: status " + what, x.status(what), 0);
            check.due("new: count " + what, x.count(what), 0);
        }
        check.due("new: would", x.would(17, 2, 9, 1, 3, 1), 17);
        check.due("new: drive", x.drive(5), 10);
        check.due("NONE", RainWheel.NONE, -1);
    }

    private void feed() {
        RainWheel x = Check.fresh();
        for (int k = 1; k <= 30; k++) {
            check.due("feed " + k, x.feed(0, 0, 0, 0, 0), 20 * k);
        }
        check.due("feed beyond 600", x.feed(0, 0, 0, 0, 0), -1);
        check.due("it did nothing", x.count(1), 600);
        x.road(0);
        check.due("empty then", x.count(1), 0);
        // "load 77;" then blanks: of each number the highest byte first
        check.due("feed a text", x.feed(0x6c6f6164, 0x2037373b, 0x20202020, 0x20202020, 0x20202020), 20);
        check.due("as road", x.road(20), 0);
        check.due("load", x.told(7), 77);
        x.feed(-1, Integer.MIN_VALUE, 0, 0, 0);
        check.due("bytes above 127 can't stand there", x.road(1), -9);
        check.due("at the first", x.fault(), 0);
    }

    private void roads() {
        RainWheel x = Check.fresh();
        check.due("road", Check.road(x, "person 3;deed 4 1 2 7;deed 2 0 1 0;deed 1 0 1 0;needs 2 0;needs 2 0;needs 2 1;"), 3);
        check.due("needs twice is once", x.deed(2, 4), 3);
        check.improper("more than the tape has", () -> x.road(1));
        check.improper("less than nothing", () -> x.road(-1));
        x.feed(0, 0, 0, 0, 0);
        check.improper("one more than there are", () -> x.road(21));
        check.due("the tape stays", x.count(1), 20);
        check.due("the road stays", x.told(1), 3);
        check.due("a fault empties the tape", x.road(20), -9);
        check.due("it is empty", x.count(1), 0);
        check.due("all stays", x.told(1), 3);

        Check.law(x, "5");
        Check.plan(x, "1 0;");
        Check.book(x, "0 1;");
        x.hand(0, 1);
        x.image();
        check.due("a faulty road keeps all", Check.road(x, "person 3"), -9);
        check.due("law stays", x.would(9, 1, 1, 0, 0, 0), 5);
        check.due("plan stays", x.told(5), 1);
        check.due("book stays", x.told(6), 1);
        check.due("image stays", x.count(0), 1);
        check.due("change stays", x.count(2), 1);
        check.due("a new road", Check.road(x, "deed 3 0 1 0;"), 1);
        check.due("no law", x.would(9, 1, 1, 0, 0, 0), 9);
        check.due("no plan", x.told(5), 0);
        check.due("no book", x.told(6), 0);
        check.due("no images", x.count(0), 0);
        check.due("nothing to undo", x.count(2), 0);
        check.due("no people of the road before", x.told(0), 0);
        check.due("needs of the road before are gone", Check.road(x, "deed 1 0 1 0;deed 1 0 1 0;deed 1 0 1 0;"), 3);
        check.due("needs nothing", x.deed(2, 4), 0);

        check.due("of the same the last counts", Check.road(x, "load 5;load 7;stops 3;stops 1;yard 4 9;yard 4 2;soft 9 9;soft 40 2;"), 0);
        check.due("load", x.told(7), 7);
        check.due("stops", x.told(8), 1);
        check.due("yard", x.bears(4), 2);
        check.due("soft", x.drive(2), 4);
        check.due("blanks, and none", Check.road(x, "  person4 ;deed  30 1 2 18;   deed 1 0 1 0 ; needs1 0;  "), 2);
        check.due("strong", x.strong(0), 4);
        check.due("noughts ahead", Check.road(x, "person 00000000000000000009;"), 0);
        check.due("strong", x.strong(0), 9);
        check.due("only blanks", Check.road(x, "     "), 0);
        check.due("no people", x.told(0), 0);
        check.due("greatest of all", Check.road(x, "person 9;deed 30 1 2 18;rain 240 240;yard 59 20;board 9;load 99;nut 15;"
            + "stops 16;cause 16 16 16 16;loses 16;soft 99 9;"), 1);
        check.due("least of all", Check.road(x, "person 1;deed 1 0 1 0;rain 0 0;yard 0 0;board 1;load 1;nut 0;"
            + "stops 0;cause 1 0 0 0;loses 0;soft 0 1;"), 1);
    }

    private void faultOfRoad(String text, int kind, int place) {
        RainWheel x = Check.fresh();
        check.due("road '" + text + "'", Check.road(x, text), kind - 10);
        check.due("fault of '" + text + "'", x.fault(), place);
    }

    private void roadFaults() {
        faultOfRoad("person 0;", 2, 7);
        faultOfRoad("person 10;", 2, 7);
        faultOfRoad("person 99999999999999999999999;", 2, 7);
        faultOfRoad("person 4294967297;", 2, 7);
        faultOfRoad("deed 0 0 1 0;", 2, 5);
        faultOfRoad("deed 31 0 1 0;", 2, 5);
        faultOfRoad("deed 1 2 1 0;", 2, 7);
        faultOfRoad("deed 1 0 0 0;", 2, 9);
        faultOfRoad("deed 1 0 3 0;", 2, 9);
        faultOfRoad("deed 1 0 1 19;", 2, 11);
        faultOfRoad("deed 1 0 1;", 1, 10);
        faultOfRoad("deed 1 0 1 0 0;", 1, 13);
        faultOfRoad("rain 241 241;", 2, 5);
        faultOfRoad("rain 3 241;", 2, 7);
        faultOfRoad("rain 3 2;", 2, 7);
        faultOfRoad("yard 60 0;", 2, 5);
        faultOfRoad("yard 59 21;", 2, 8);
        faultOfRoad("board 10;", 2, 6);
        faultOfRoad("load 100;", 2, 5);
        faultOfRoad("nut 16;", 2, 4);
        faultOfRoad("stops 17;", 2, 6);
        faultOfRoad("cause 17 0 0 0;", 2, 6);
        faultOfRoad("cause 0 0 0 0;", 2, 6);
        faultOfRoad("cause 1 17 0 0;", 2, 8);
        faultOfRoad("cause 1 0 17 0;", 2, 10);
        faultOfRoad("cause 1 0 0 17;", 2, 12);
        faultOfRoad("loses 17;", 2, 6);
        faultOfRoad("soft 100 1;", 2, 5);
        faultOfRoad("soft 1 0;", 2, 7);
        faultOfRoad("soft 1 10;", 2, 7);
        faultOfRoad("needs 0 0;", 2, 6);
        faultOfRoad("deed 1 0 1 0;needs 0 0;", 2, 21);
        faultOfRoad("deed 1 0 1 0;needs 1 0;deed 1 0 1 0;", 2, 19);
        faultOfRoad("deed 1 0 1 0;deed 1 0 1 0;needs 1 1;", 2, 34);
        // What can't stand there, at its first byte, or at the length.
        faultOfRoad("persons 1;", 1, 0);
        faultOfRoad("  perso 1;", 1, 2);
        faultOfRoad("Person 1;", 1, 0);
        faultOfRoad(";", 1, 0);
        faultOfRoad("5;", 1, 0);
        faultOfRoad("person 1;;", 1, 9);
        faultOfRoad("person 1", 1, 8);
        faultOfRoad("person 1   ", 1, 11);
        faultOfRoad("person", 1, 6);
        faultOfRoad("person  ;", 1, 8);
        faultOfRoad("person -1;", 1, 7);
        faultOfRoad("person 1,", 1, 8);
        faultOfRoad("person 1 person 1;", 1, 9);
        faultOfRoad("person\t1;", 1, 6);
        faultOfRoad("person 1" + (char) 187, 1, 8);
        // The first from the left.
        faultOfRoad("person 0", 2, 7);
        faultOfRoad("deed 31 2 x", 2, 5);
    }

    private static String times(int many, String clause) {
        return clause.repeat(many);
    }

    private void tooMany() {
        RainWheel x = Check.fresh();
        check.due("12 deeds", Check.road(x, times(12, "deed 1 0 1 0;")), 12);
        check.due("the most of each", Check.road(x, times(4, "person 1;") + times(6, "rain 1 1;") + times(6, "board 1;")
            + times(8, "nut 1;") + times(4, "cause 1 1 1 1;")), 0);
        check.due("60 clauses", Check.road(x, times(60, "load 1;")), 0);
        faultOfRoad(times(5, "person 1;"), 3, 36);
        faultOfRoad(times(13, "deed 1 0 1 0;"), 3, 156);
        faultOfRoad(times(6, "rain 1 1;") + "  rain 1 1;", 3, 56);
        faultOfRoad(times(7, "board 1;"), 3, 48);
        faultOfRoad(times(9, "nut 1;"), 3, 48);
        faultOfRoad(times(5, "cause 1 1 1 1;"), 3, 56);
        faultOfRoad(times(61, "load 1;"), 3, 420);
        faultOfRoad(times(60, "load 1;") + " yard", 3, 421);
        faultOfRoad(times(4, "person 1;") + "person 99 x", 3, 36);
        // Of one place the least fault: a word that is none can't stand there, however many there are.
        faultOfRoad(times(60, "load 1;") + "loads 1;", 1, 420);
        faultOfRoad(times(60, "load 1;") + "7", 1, 420);
        check.due("60 clauses and blanks", Check.road(x, times(60, "load 1;") + "   "), 0);
    }

    private void law(String text, int want) {
        RainWheel x = Check.fresh();
        check.due("law '" + text + "'", Check.law(x, text), 1);
        check.due("no fault", x.fault(), -1);
        // minutes 7, hands 2, strong 11, rain 1, minute 100, out 0
        check.due("would by '" + text + "'", x.would(7, 2, 11, 1, 100, 0), want);
    }

    private void laws() {
        law("minutes", 7);
        law("hands", 2);
        law("strong", 11);
        law("rain", 1);
        law("rain+1", 2);
        law("minute-30", 70);
        law("out+5", 5);
        law("42", 42);
        law("0", 1);
        law("1-2", 1);
        law("100", 99);
        law("999", 99);
        law("20-5-3", 12);
        law("80/4/5", 4);
        law("2+3*4", 14);
        law("(2+3)*4", 20);
        law("7/2", 3);
        law("10+(0-7)/2", 7);
        law("5/0", 1);
        law("9+5/0", 9);
        law("9+5/out*3", 9);
        law("least[3,4]", 3);
        law("most[3,4]", 4);
        law("most[least[9,5],least[2,8]]", 5);
        law("  most [ 1 + 1 , 2 * 3 ]  ", 6);
        law("((((((5))))))", 5);
        law("least[".repeat(6) + "9,8],7],6],5],4],3]", 3);
        law("(1)+(2)+(3)+(4)+(5)+(6)+(7)+(8)", 36);
        law("minutes+minute", 99);
        law("minutes*minutes", 49);
        // 999 to the 4th is 996,005,996,001, which wraps to -426,416,671; -2,147,483,648 by -1 stays what it is.
        law("50-999*999*999*999/100/100/100/100", 54);
        law("10+(0-2*32*32*32*32*32*32)/(0-1)/64/64/64/64/16", 2);
        law("000000000000012", 12);
        RainWheel x = Check.fresh();
        check.due("150 bytes", Check.law(x, "1" + "+1".repeat(74) + " "), 1);
        check.due("75", x.would(1, 1, 0, 0, 0, 0), 75);
        Check.feed(x, "1" + "+1".repeat(75));
        check.improper("more than 150", () -> x.law(151));
        check.due("the tape stays", x.count(1), 160);
        check.improper("less than none", () -> x.law(-1));
        check.due("150 of them", x.law(150), -9);
        check.due("too early", x.fault(), 150);
        check.due("the law stays", x.would(1, 1, 0, 0, 0, 0), 75);
        check.due("empty", x.count(1), 0);
        check.improper("no bytes", () -> x.law(1));
        Check.law(x, "3");
        check.due("the latest law", x.would(1, 1, 0, 0, 0, 0), 3);
    }

    private void faultOfLaw(String text, int kind, int place) {
        RainWheel x = Check.fresh();
        check.due("law '" + text + "'", Check.law(x, text), kind - 10);
        check.due("fault of '" + text + "'", x.fault(), place);
        check.due("the law stays", x.would(23, 1, 0, 0, 0, 0), 23);
    }

    private void lawFaults() {
        faultOfLaw("", 1, 0);
        faultOfLaw("   ", 1, 3);
        faultOfLaw("1000", 2, 0);
        faultOfLaw("1+1000*", 2, 2);
        faultOfLaw("rains", 1, 0);
        faultOfLaw("minutesminute", 1, 0);
        faultOfLaw("-1", 1, 0);
        faultOfLaw("1 1", 1, 2);
        faultOfLaw("1+", 1, 2);
        faultOfLaw("1+*2", 1, 2);
        faultOfLaw("(1", 1, 2);
        faultOfLaw("(1]", 1, 2);
        faultOfLaw("1)", 1, 1);
        faultOfLaw("()", 1, 1);
        faultOfLaw("least 5", 1, 6);
        faultOfLaw("least(5,6)", 1, 5);
        faultOfLaw("least[5", 1, 7);
        faultOfLaw("least[5]", 1, 7);
        faultOfLaw("least[5,", 1, 8);
        faultOfLaw("least[5,6", 1, 9);
        faultOfLaw("least[5,6)", 1, 9);
        faultOfLaw("most[,6]", 1, 5);
        faultOfLaw("most[5,6,7]", 1, 8);
        faultOfLaw("5;", 1, 1);
        faultOfLaw("2(3)", 1, 1);
        faultOfLaw("(((((((1", 3, 6);
        faultOfLaw("((((((least[1,2]))))))", 3, 6);
        faultOfLaw("((((((  most", 3, 8);
        faultOfLaw("most[1,least[2,(3+(4*most[5,(6/(7))])))]]", 3, 31);
        faultOfLaw("least[".repeat(7), 3, 36);
        faultOfLaw("most[".repeat(6) + "(", 3, 30);
        faultOfLaw("1+least[2*" + "(".repeat(6), 3, 15);
        faultOfLaw("((((((5)))))(", 1, 12);
        faultOfLaw("((((((mos", 1, 6);
    }

    private void faultOfPlan(String text, int kind, int place) {
        RainWheel x = Check.told("person 1;person 2;person 3;deed 1 0 1 0;deed 1 0 1 0;", "1 2;");
        x.hand(0, 1);
        check.due("plan '" + text + "'", Check.plan(x, text), kind - 10);
        check.due("fault of '" + text + "'", x.fault(), place);
        check.due("the plan stays", x.line(0, 1), 1);
        check.due("the change stays", x.count(2), 1);
    }

    private void plans() {
        RainWheel x = Check.told("person 1;person 2;person 3;deed 1 0 1 0;deed 1 0 1 0;", "");
        check.due("two lines", Check.plan(x, "1 2 0; 0 1;"), 2);
        check.due("deed", x.line(0, 0), 1);
        check.due("people", x.line(0, 1), 5);
        check.due("deed", x.line(1, 0), 0);
        check.due("people", x.line(1, 1), 2);
        x.drop(0);
        x.image();
        check.due("a plan anew", Check.plan(x, " 0 0 ; "), 1);
        check.due("nothing to undo", x.undo(), -1);
        check.due("images stay", x.count(0), 1);
        check.due("restored", x.restore(), 0);
        check.due("with its change", x.count(2), 1);
        check.due("and its line", x.line(0, 1), 2);
        check.due("no lines", Check.plan(x, ""), 0);
        check.due("told", x.told(5), 0);
        faultOfPlan("2 0;", 2, 0);
        faultOfPlan("0 3;", 2, 2);
        faultOfPlan("0 0 3;", 2, 4);
        faultOfPlan("0 1 1;", 2, 4);
        faultOfPlan("0 1;0 2;", 2, 4);
        faultOfPlan("0 1;  0", 2, 6);
        faultOfPlan("0 1;1 1;0 0;", 2, 8);
        faultOfPlan("0;", 1, 1);
        faultOfPlan("0 0", 1, 3);
        faultOfPlan("0 0 1", 1, 5);
        faultOfPlan("0 0 1 2;", 1, 6);
        faultOfPlan("x 0;", 1, 0);
        faultOfPlan("0 x;", 1, 2);
        faultOfPlan("0 0,", 1, 3);
        faultOfPlan(";", 1, 0);
        RainWheel y = Check.told("person 1;" + times(12, "deed 1 0 1 0;"), "");
        String twelve = "0 0;1 0;2 0;3 0;4 0;5 0;6 0;7 0;8 0;9 0;10 0;11 0;";
        check.due("12 lines", Check.plan(y, twelve), 12);
        check.due("a 13th", Check.plan(y, twelve + "5 0;"), -8);
        check.due("at its deed", y.fault(), twelve.length());
        Check.feed(y, twelve + " ".repeat(160 - twelve.length()));
        check.improper("more than 150", () -> y.plan(151));
        check.due("150", y.plan(150), 12);
        RainWheel none = Check.fresh();
        check.due("without deeds", Check.plan(none, "0 0;"), -8);
        RainWheel nobody = Check.told("deed 1 0 1 0;", "");
        check.due("without people", Check.plan(nobody, "0 0;"), -8);
        check.due("at the person", nobody.fault(), 2);
    }

    private void faultOfBook(String text, int kind, int place) {
        RainWheel x = Check.fresh();
        Check.book(x, "1 1;");
        check.due("book '" + text + "'", Check.book(x, text), kind - 10);
        check.due("fault of '" + text + "'", x.fault(), place);
        check.due("the book stays", x.told(6), 1);
    }

    private void books() {
        RainWheel x = Check.fresh();
        check.due("three lines", Check.book(x, "2 0; 0 1 ;1 1;  "), 3);
        check.due("told", x.told(6), 3);
        check.due("no lines", Check.book(x, ""), 0);
        check.due("told", x.told(6), 0);
        faultOfBook("3 0;", 2, 0);
        faultOfBook("0 2;", 2, 2);
        faultOfBook("0 1;0 1;", 2, 4);
        faultOfBook("0 1;1 1;2 1;2 0;", 2, 12);
        faultOfBook("0;", 1, 1);
        faultOfBook("0 1 1;", 1, 4);
        faultOfBook("0 1", 1, 3);
        faultOfBook("a 1;", 1, 0);
        Check.feed(x, "0 1;" + " ".repeat(50));
        check.improper("more than 40", () -> x.book(41));
        check.due("40", x.book(40), 1);
    }

    private void faults() {
        RainWheel x = Check.fresh();
        Check.road(x, "load");
        check.due("a fault", x.fault(), 4);
        check.improper("refused", () -> x.law(1));
        check.due("that was no text", x.fault(), 4);
        Check.book(x, "0 1;");
        check.due("the latest has none", x.fault(), -1);
        Check.law(x, "1+x");
        check.due("of a law", x.fault(), 2);
        Check.plan(x, "");
        check.due("none again", x.fault(), -1);
    }

    private void whatWasTold() {
        RainWheel x = Check.told("person 3;person 9;deed 4 1 2 7;deed 30 0 1 18;deed 2 0 1 0;needs 1 0;needs 2 1;needs 2 0;rain 3 5;"
            + "rain 5 7;rain 240 240;yard 0 20;yard 59 0;board 2;board 5;board 1;load 33;nut 1;nut 2;nut 3;nut 4;stops 9;cause 1 2 3 4;", "0 0 1;");
        Check.book(x, "0 0;1 0;");
        int[] want = {2, 3, 3, 4, 1, 1, 2, 33, 9};
        for (int what = 0; what < want.length; what++) {
            check.due("told " + what, x.told(what), want[what]);
        }
        check.improper("told 9", () -> x.told(9));
        check.improper("told -1", () -> x.told(-1));
        int[][] deeds = {{4, 1, 2, 7, 0}, {30, 0, 1, 18, 1}, {2, 0, 1, 0, 3}};
        for (int deed = 0; deed < 3; deed++) {
            for (int what = 0; what < 5; what++) {
                check.due("deed " + deed + " " + what, x.deed(deed, what), deeds[deed][what]);
            }
        }
        check.improper("deed what 5", () -> x.deed(0, 5));
        check.improper("deed what -1", () -> x.deed(2, -1));
        check.missing("deed 3", () -> x.deed(3, 0));
        check.missing("deed -1, ahead of what 9", () -> x.deed(-1, 9));
        check.due("strong 0", x.strong(0), 3);
        check.due("strong 1", x.strong(1), 9);
        check.missing("strong 2", () -> x.strong(2));
        check.missing("strong -1", () -> x.strong(-1));
        check.due("bears 0", x.bears(0), 20);
        check.due("bears 59", x.bears(59), 0);
        check.due("bears 30", x.bears(30), 3);
        check.improper("bears 60", () -> x.bears(60));
        check.improper("bears -1", () -> x.bears(-1));
        for (int minute = 0; minute <= 240; minute++) {
            check.due("rains " + minute, x.rains(minute) ? 1 : 0, minute >= 3 && minute <= 7 || minute == 240 ? 1 : 0);
        }
        check.improper("rains 241", () -> x.rains(241) ? 1 : 0);
        check.improper("rains -1", () -> x.rains(-1) ? 1 : 0);
        check.due("refused", x.status(0), 4);
        check.due("refused", x.status(1), 8);
    }

    private void would() {
        RainWheel x = Check.fresh();
        Check.law(x, "minutes+hands*10+strong*2+rain*4+minute/60+out*3");
        check.due("would", x.would(1, 1, 0, 0, 0, 0), 11);
        check.due("would", x.would(1, 2, 18, 1, 240, 1), 68);
        check.due("rain though it is not out", x.would(1, 1, 0, 1, 0, 0), 15);
        check.improper("minutes 0", () -> x.would(0, 1, 0, 0, 0, 0));
        check.improper("minutes 31", () -> x.would(31, 1, 0, 0, 0, 0));
        check.improper("hands 0", () -> x.would(1, 0, 0, 0, 0, 0));
        check.improper("hands 3", () -> x.would(1, 3, 0, 0, 0, 0));
        check.improper("strong -1", () -> x.would(1, 1, -1, 0, 0, 0));
        check.improper("strong 19", () -> x.would(1, 1, 19, 0, 0, 0));
        check.improper("rain 2", () -> x.would(1, 1, 0, 2, 0, 0));
        check.improper("rain -1", () -> x.would(1, 1, 0, -1, 0, 0));
        check.improper("minute 241", () -> x.would(1, 1, 0, 0, 241, 0));
        check.improper("minute -1", () -> x.would(1, 1, 0, 0, -1, 0));
        check.improper("out 2", () -> x.would(1, 1, 0, 0, 0, 2));
        check.improper("out -1", () -> x.would(1, 1, 0, 0, 0, -1));
        check.due("refused", x.status(1), 12);
    }
}
