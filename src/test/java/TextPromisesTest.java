/** Promises 1 to 5: a new object, feed, end, house, fault; what a text may be and where its first fault is. */
public final class TextPromisesTest {
    private static final Check CHECK = new Check("TextPromisesTest");
    private static final String ONE_SORT = "sort a birds 1 slips ";

    private TextPromisesTest() {
    }

    public static void main(String[] args) {
        newObject();
        feed();
        end();
        house();
        houseBeginsAnew();
        faultStays();
        tokens();
        lines();
        ranges();
        tooMany();
        formulas();
        fourFormulas();
        nesting();
        units();
        CHECK.end();
    }

    private static void newObject() {
        AviaryLock x = new AviaryLock();
        int[] want = {0, 0, 0, 0, 0, 4, 0, 0, 0, 0, 0, 0, 0, 0, 0, 0, 0, 0, 0};
        for (int i = 0; i < want.length; i++) {
            CHECK.due("new about " + i, x.about(i), want[i]);
        }
        CHECK.due("new fault 0", x.fault(0), 0);
        CHECK.due("new fault 1", x.fault(1), -1);
        CHECK.due("new fault 2", x.fault(2), -1);
        CHECK.due("new fault -1", x.fault(-1), -1);
        CHECK.due("new springs", x.springs(2), 0);
        CHECK.due("NONE", AviaryLock.NONE, -1);
    }

    private static void feed() {
        AviaryLock x = new AviaryLock();
        for (int i = 1; i <= 80; i++) {
            CHECK.due("feed " + i, x.feed(0x20202020, 0x0a0a0a0a, 0x20202020, 0x20202020, 0x20202020), 20 * i);
        }
        CHECK.due("feed past 1600", x.feed(0, 0, 0, 0, 0), -1);
        CHECK.due("nothing came", x.about(16), 1600);
        CHECK.due("1581 bytes", x.end(1581), 1581);
        CHECK.due("feed past 1600 from 1581", x.feed(0, 0, 0, 0, 0), -1);
        CHECK.due("1580 bytes", x.end(1580), 1580);
        CHECK.due("feed to 1600", x.feed(0x20202020, 0x20202020, 0x20202020, 0x20202020, 0x2020203b), 1600);
        CHECK.due("blanks and a sign", x.house(), -1);
        CHECK.due("the sign is 2", x.fault(0), 2);
        CHECK.due("the sign is last", x.fault(1), 1599);
        CHECK.due("without it", x.end(1599), 1599);
        CHECK.due("blanks", x.house(), 0);
        AviaryLock y = new AviaryLock();
        y.feed('l' << 24 | 'o' << 16 | 'c' << 8 | 'k', ' ' << 24 | '1' << 16 | '7' << 8 | ';', 0xff000000, 0, 0);
        y.end(8);
        CHECK.due("the highest byte first", y.house(), 0);
        CHECK.due("the seats", y.about(5), 17);
    }

    private static void end() {
        AviaryLock x = new AviaryLock();
        CHECK.due("end of none", x.end(0), 0);
        CHECK.due("end past none", x.end(1), -1);
        x.feed(1, 2, 3, 4, 5);
        CHECK.due("end past", x.end(21), -1);
        CHECK.due("end below", x.end(-1), -1);
        CHECK.due("end least", x.end(Integer.MIN_VALUE), -1);
        CHECK.due("end most", x.end(Integer.MAX_VALUE), -1);
        CHECK.due("nothing done", x.about(16), 20);
        CHECK.due("end same", x.end(20), 20);
        CHECK.due("end some", x.end(7), 7);
        CHECK.due("bytes", x.about(16), 7);
        CHECK.due("end back up", x.end(8), -1);
    }

    private static void house() {
        AviaryLock x = Texts.with("curtain 3;draw 77;dark;latch;manners 9;lock 5;spring 3 4;\n"
            + "sort wren birds 7 slips 1;sort owl birds 0 slips 2+3;party 2 at 3 in pram;party 1 at 0 out;");
        int[] want = {2, 2, 0, 0, 77, 5, 0, 3, 1, 1, 9, 0, 0, 0, 0, 0, 0, 3, 0};
        for (int i = 0; i < want.length; i++) {
            CHECK.due("house about " + i, x.about(i), want[i]);
        }
        x.seconds(1);
        CHECK.due("inner spring", x.door(1), 4);
        x.week();
        x.seconds(4);
        CHECK.due("outer spring", x.door(0), 0);
        x.seconds(1);
        CHECK.due("outer spring now", x.door(0), 3);
        Texts.put(x, "");
        CHECK.due("an empty house", x.house(), 0);
        CHECK.due("its seats", x.about(5), 4);
        CHECK.due("its latch", x.about(9), 0);
        CHECK.due("its sorts", x.about(1), 0);
        CHECK.due("its units", x.about(17), 0);
        CHECK.due("its dark", x.about(8), 0);
        CHECK.due("its curtain", x.about(7), 0);
        CHECK.due("its seed", x.about(4), 0);
        CHECK.due("its manners", x.about(10), 0);
        Texts.put(x, "party 1 at 0 out;party 1 at 9 in;");
        x.house();
        x.seconds(1);
        CHECK.due("its inner spring", x.door(1), 2);
        x.seconds(9);
        CHECK.due("its outer spring", x.door(0), 2);
    }

    private static void houseBeginsAnew() {
        AviaryLock x = Texts.with("manners 100;sort a birds 9 slips 50;party 1 at 0 out;party 1 at 2 in;party 1 at 2 in;");
        x.later(5);
        x.count(0, 1, 2, 0);
        x.image(2);
        x.order(2);
        x.seconds(3);
        x.curtain(4);
        x.undo();
        x.week();
        x.seconds(2);
        x.undo();
        Texts.put(x, "sort b birds 4 slips 9;party 3 at 1 in;draw 5;");
        CHECK.due("another house", x.house(), 1);
        int[] want = {1, 1, 0, 0, 5, 4, 0, 0, 0, 0, 0, 0, 0, 0, 0, 5, 0, 1, 0};
        for (int i = 0; i < want.length; i++) {
            CHECK.due("anew about " + i, x.about(i), want[i]);
        }
        CHECK.due("anew within", x.sort(0, 0), 4);
        CHECK.due("anew between", x.sort(0, 1), 0);
        CHECK.due("anew outside", x.sort(0, 2), 0);
        CHECK.due("anew slipped", x.sort(0, 3), 0);
        CHECK.due("anew undo", x.undo(), false);
        CHECK.due("anew redo", x.redo(), false);
        CHECK.due("anew box", x.back(2), -1);
        CHECK.due("anew lies", x.lies(0), -1);
        CHECK.due("anew board", x.board(0), -1);
        CHECK.due("anew untell", x.untell(0), false);
        CHECK.due("anew doors", x.door(0) + x.door(1), 0);
        CHECK.due("anew party", x.party(0, 0), 0);
    }

    private static void faultStays() {
        AviaryLock x = Texts.with("lock 7;sort a birds 3 slips 1;party 1 at 0 in;");
        x.seconds(2);
        x.image(0);
        x.count(0, 1, 1, 1);
        x.veils(1);
        Texts.put(x, "lock 5;oops");
        CHECK.due("a fault", x.house(), -1);
        CHECK.due("its kind", x.fault(0), 2);
        CHECK.due("its place", x.fault(1), 7);
        // Three draws: 71, 798 (the sort, the one in the lock), 397 (the sort).
        int[] want = {1, 1, 2, 0, 397, 7, 1, 0, 0, 0, 0, 0, 1, 0, 1, 0, 11, 1, 1};
        for (int i = 0; i < want.length; i++) {
            CHECK.due("stays about " + i, x.about(i), want[i]);
        }
        CHECK.due("the box stays", x.back(0), 2);
        x.end(7);
        CHECK.due("mended", x.house(), 0);
        CHECK.due("no fault now", x.fault(0), 0);
        CHECK.due("no place now", x.fault(1), -1);
    }

    private static void sound(String text) {
        fault(text, 0, -1);
    }

    private static void fault(String text, int kind, int place) {
        AviaryLock x = new AviaryLock();
        Texts.put(x, text);
        int parties = x.house();
        CHECK.due("'" + text + "' fails", parties == -1, kind != 0);
        CHECK.due("fault of '" + text + "'", x.fault(0), kind);
        CHECK.due("place in '" + text + "'", x.fault(1), place);
    }

    private static void tokens() {
        sound("");
        sound(" \n \n");
        sound("lock4;");
        sound("lock\n4\n;\n");
        sound("lock 0004;");
        fault("lock 00004;", 1, 5);
        fault("lock 4a;", 1, 5);
        fault("lock 4lock", 1, 5);
        fault("party 1 at 0in;", 1, 11);
        fault("Lock 4;", 1, 0);
        fault("lock\t4;", 1, 4);
        fault("lock 4;\r", 1, 7);
        fault("lock 4;\u00e9", 1, 7);
        fault("lock 4;\u0000", 1, 7);
        fault("lock 4.", 1, 6);
        fault("abcdefghi;", 1, 0);
        fault("abcdefgh;", 2, 0);
        fault("sort abcdefghi birds 1 slips 1;", 1, 5);
        sound("sort abcdefgh birds 1 slips 1;");
        sound("sort z birds 1 slips 1;");
        fault(ONE_SORT + "12345;", 1, 21);
        sound(ONE_SORT + "9999;");
        fault(ONE_SORT + "1!2;", 1, 22);
    }

    private static void lines() {
        fault("foo;", 2, 0);
        fault(";", 2, 0);
        fault("5;", 2, 0);
        fault("lock", 2, 4);
        fault("lock  ", 2, 6);
        fault("lock 4", 2, 6);
        fault("lock 4  ", 2, 8);
        fault("lock 4 5;", 2, 7);
        fault("lock x;", 2, 5);
        fault("lock ;", 2, 5);
        fault("locks 4;", 2, 0);
        fault("loc 4;", 2, 0);
        fault("spring 2;", 2, 8);
        fault("latch 1;", 2, 6);
        fault("dark dark;", 2, 5);
        fault("sort 5 birds 1 slips 1;", 2, 5);
        fault("sort birds 1 slips 1;", 2, 5);
        fault("sort a slips 1;", 2, 7);
        fault("sort a birds 1;", 2, 14);
        fault("party 1 at 0;", 2, 12);
        fault("party 1 at 0 pram;", 2, 13);
        fault("party 1 at 0 in out;", 2, 16);
        fault("party 1 at 0 in pram pram;", 2, 21);
        fault("party 1 in;", 2, 8);
        sound("party 1 at 0 in pram;party 9 at 299 out;");
        for (String word : new String[] {"lock", "spring", "latch", "manners", "dark", "curtain", "sort", "birds", "slips", "party",
            "at", "in", "out", "pram", "draw", "or", "and", "not", "gap", "people", "night", "veil", "week", "slipped"}) {
            fault("sort " + word + " birds 1 slips 1;", 2, 5);
        }
        sound("sort e birds 1 slips 1;sort one birds 1 slips 1;");
        fault(ONE_SORT + "1;" + ONE_SORT + "x", 3, 28);
        sound("sort a birds 1 slips 1;sort aa birds 1 slips 1;sort b birds 1 slips 1;");
    }

    private static void ranges() {
        ranged("lock ", 1, 20, ";");
        ranged("spring ", 1, 9, " 1;");
        ranged("spring 1 ", 1, 9, ";");
        ranged("manners ", 0, 100, ";");
        ranged("curtain ", 0, 9, ";");
        ranged("draw ", 0, 999, ";");
        ranged("sort a birds ", 0, 240, " slips 1;");
        ranged("party ", 1, 9, " at 1 in;");
        ranged("party 1 at ", 0, 299, " in;");
        ranged(ONE_SORT, 0, 9999, ";");
    }

    private static void ranged(String head, int least, int most, String tail) {
        sound(head + least + tail);
        sound(head + most + tail);
        if (least > 0) {
            fault(head + (least - 1) + tail, 4, head.length());
        }
        if (most < 9999) {
            fault(head + (most + 1) + tail, 4, head.length());
            fault(head + 9999, 4, head.length());
        }
    }

    private static void tooMany() {
        for (String line : new String[] {"lock 4;", "spring 1 1;", "latch;", "manners 5;", "dark;", "curtain 1;", "draw 1;"}) {
            fault("party 1 at 1 in;" + line + line, 2, 16 + line.length());
        }
        fault("lock 4;lock 99;", 2, 7);
        fault("lock 4;latch;dark;latch;", 2, 18);
        fault("lock 4;latch;dark;lock 4;", 2, 18);
        StringBuilder sorts = new StringBuilder();
        for (char name = 'a'; name < 'e'; name++) {
            sorts.append("sort ").append(name).append(" birds 1 slips 1;");
        }
        sound(sorts.toString());
        fault(sorts + "sort a birds 1 slips 1;", 2, sorts.length());
        StringBuilder parties = new StringBuilder();
        for (int i = 0; i < 12; i++) {
            parties.append("party 1 at ").append(i).append(" out;");
        }
        CHECK.due("twelve parties", Texts.with(parties.toString()).about(0), 12);
        fault(parties + "party 1 at 1 in;", 2, parties.length());
    }

    private static void odds(String formula, int want) {
        CHECK.due("odds of " + formula, Texts.with("curtain 7;" + ONE_SORT + formula + ";").sort(0, 4), want);
    }

    private static void formulas() {
        odds("7", 7);
        odds("100", 100);
        odds("101", 100);
        odds("3-5", 0);
        odds("20-5-3", 12);
        odds("2+3*4", 14);
        odds("(2+3)*4", 20);
        odds("7/2*2", 6);
        odds("17%5", 2);
        odds("50-7/0", 50);
        odds("50-7%0", 50);
        odds("10+(0-7)/2", 7);
        odds("10+(0-7)%2", 9);
        odds("veil*9", 63);
        odds("week+slipped+gap+people+night", 0);
        odds("3<4", 1);
        odds("4<3", 0);
        odds("3<3", 0);
        odds("4>3", 1);
        odds("3>3", 0);
        odds("3=3", 1);
        odds("3=4", 0);
        odds("1+2=3", 1);
        odds("5 and 7", 1);
        odds("1 and 1", 1);
        odds("1 and 0", 0);
        odds("5 and 0", 0);
        odds("0 or 7", 1);
        odds("0 or 0", 0);
        odds("1 or 0 and 0", 1);
        odds("not 5", 0);
        odds("not 0", 1);
        odds("not 1<2", 0);
        odds("not 0 and 0", 0);
        odds("not not 9", 1);
        odds("9*(not 0)", 9);
        // 999700029999 wraps to -1027349969, and 4999000050 to 704032754.
        odds("9999*9999*9999", 0);
        odds("9999*9999*50", 100);
        odds("9999*9999*50%1000/10", 75);
        odds("9999*9999*30", 0);
        fault(ONE_SORT + ";", 2, 21);
        fault(ONE_SORT + "1<2<3;", 2, 24);
        fault(ONE_SORT + "1=2>3;", 2, 24);
        fault(ONE_SORT + "1+not 2;", 2, 23);
        fault(ONE_SORT + "1<not 2;", 2, 23);
        fault(ONE_SORT + "-1;", 2, 21);
        fault(ONE_SORT + "();", 2, 22);
        fault(ONE_SORT + "(1;", 2, 23);
        fault(ONE_SORT + "1);", 2, 22);
        fault(ONE_SORT + "1 1;", 2, 23);
        fault(ONE_SORT + "a;", 2, 21);
        fault(ONE_SORT + "1 or;", 2, 25);
        fault(ONE_SORT + "1 and or 1;", 2, 27);
        fault(ONE_SORT + "not;", 2, 24);
        fault(ONE_SORT + "not", 2, 24);
        fault(ONE_SORT + "1+", 2, 23);
    }

    private static void fourFormulas() {
        AviaryLock x = Texts.with("sort a birds 1 slips 1;sort b birds 2 slips 4/2;sort c birds 3 slips not 0+2;sort d birds 4 slips 2*2;");
        int[] want = {1, 2, 0, 4};
        for (int i = 0; i < 4; i++) {
            CHECK.due("birds of sort " + i, x.sort(i, 0), i + 1);
            CHECK.due("odds of sort " + i, x.sort(i, 4), want[i]);
        }
        CHECK.due("no fifth", x.sort(4, 0), -1);
        CHECK.due("units", x.about(17), 7);
    }

    private static void nesting() {
        sound(ONE_SORT + "(((((((1)))))));");
        fault(ONE_SORT + "((((((((1))))))));", 2, 28);
        sound(ONE_SORT + "not not not not not not not 1;");
        fault(ONE_SORT + "not not not not not not not not 1;", 2, 21 + 28);
        sound(ONE_SORT + "not(not(not(not 1)));");
        fault(ONE_SORT + "not(not(not(not(1))));", 2, 21 + 15);
        fault(ONE_SORT + "(not(not(not(not 1))));", 2, 21 + 13);
        sound(ONE_SORT + "(((((((1)))))))+(((((((1)))))));");
        fault(ONE_SORT + "((((((((1;", 2, 28);
    }

    private static void units() {
        String nots = "not not not not not not not 1";
        sound(ONE_SORT + nots + (" and " + nots).repeat(29) + ";");
        CHECK.due("nots ahead of each", Texts.with(ONE_SORT + nots + (" or " + nots).repeat(29) + ";").sort(0, 4), 0);
        CHECK.due("nots ahead of each but the last", Texts.with(ONE_SORT + nots + (" or " + nots).repeat(28) + " or 1;").sort(0, 4), 1);
        String thirty = "1" + "+1".repeat(29);
        sound(ONE_SORT + thirty + ";");
        CHECK.due("thirty units", Texts.with(ONE_SORT + thirty + ";").about(17), 30);
        CHECK.due("their sum", Texts.with(ONE_SORT + thirty + ";").sort(0, 4), 30);
        fault(ONE_SORT + thirty + "+1;", 2, 21 + 60);
        fault(ONE_SORT + thirty + "+(;", 2, 21 + 60);
        fault(ONE_SORT + thirty + "+;", 2, 21 + 60);
        fault(ONE_SORT + thirty + "+12345;", 1, 21 + 60);
        String fifteen = "(1)" + "+(1)".repeat(14);
        CHECK.due("fifteen in brackets", Texts.with(ONE_SORT + fifteen + ";").about(17), 30);
        fault(ONE_SORT + fifteen + "+1;", 2, 21 + 60);
        fault(ONE_SORT + "(" + "1+".repeat(28) + "1)*2;", 2, 21 + 60);
        String two = ONE_SORT + thirty + ";sort b birds 1 slips " + thirty + ";";
        CHECK.due("sixty units", Texts.with(two).about(17), 60);
        fault(two + "sort c birds 1 slips 1;", 2, two.length() + 21);
        sound(two + "party 1 at 1 in;");
    }
}
