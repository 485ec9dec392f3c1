/** The edges of what a text may tell, and promises 1 to 5: a new object, feed, end, house, fault. */
final class HouseEdges extends Edges {
    private static final String SORT = "sort a birds 1 slips ";
    private static final int BLANKS = 0x20202020;

    HouseEdges(Check check, Doc doc) {
        super(check, doc);
    }

    @Override
    void run() {
        longestText();
        emptyAtFirst();
        locks();
        springs();
        latchMannersDark();
        curtainAndDraw();
        onceEach();
        sorts();
        parties();
        units();
        nesting();
        constant();
        feed();
        feedRefused();
        end();
        endRefused();
        house();
        houseBeginsAnew();
        houseRefused();
        fault();
    }

    private void sound(String text) {
        fault(text, 0, NONE);
    }

    private void fault(String text, int kind, int place) {
        AviaryLock x = new AviaryLock();
        Texts.put(x, text);
        boolean fails = x.house() == NONE;
        due("'" + text + "' fails", fails, kind != 0);
        due("fault of '" + text + "'", x.fault(0), kind);
        due("place of the fault of '" + text + "'", x.fault(1), place);
    }

    /** The least and the most are sound, one less and one more are fault 4 at the number. */
    private void ranged(String head, int least, int most, String tail) {
        sound(head + least + tail);
        sound(head + most + tail);
        fault(head + (most + 1) + tail, 4, head.length());
        fault(head + 9999 + tail, 4, head.length());
        if (least > 0) {
            fault(head + (least - 1) + tail, 4, head.length());
        }
    }

    private void longestText() {
        terms("A HOUSE is a text of at most 1,600 bytes");
        AviaryLock x = Texts.with(" ".repeat(1592) + "lock 17;");
        due("a line at the end of 1,600 bytes", x.about(5), 17);
        x = Texts.with("lock 17;" + "\n".repeat(1592));
        due("a line ahead of blanks, 1,600 bytes", x.about(5), 17);
        // 12 parties of 133 bytes and 4 blanks.
        String party = "party 1" + " ".repeat(117) + "at 1 out;";
        x = Texts.with(party.repeat(12) + "    ");
        due("12 parties in 1,600 bytes", x.about(0), 12);
        fault(" ".repeat(1595) + "latch", 2, 1600);
        fault(" ".repeat(1594) + "lock 7", 2, 1600);
        fault(" ".repeat(1594) + "sort a", 2, 1600);
        AviaryLock y = new AviaryLock();
        Texts.put(y, " ".repeat(1600));
        due("bytes on the tape", y.about(16), 1600);
        due("no byte more", y.feed(BLANKS, BLANKS, BLANKS, BLANKS, BLANKS), NONE);
    }

    private void emptyAtFirst() {
        int[] want = {0, 0, 0, 0, 0, 4, 0, 0, 0, 0, 0, 0, 0, 0, 0, 0, 0, 0, 0};
        terms("(empty at first)");
        for (int i = 0; i < want.length; i++) {
            due("about(" + i + ") of a new object", new AviaryLock().about(i), want[i]);
        }
        promise(1, "An empty HOUSE.");
        AviaryLock x = new AviaryLock();
        due("sort(0, 0)", x.sort(0, 0), NONE);
        due("party(0, 0)", x.party(0, 0), NONE);
        due("doors", x.door(0) + x.door(1), 0);
        due("day(0)", x.day(0), 0);
        due("undo()", x.undo(), false);
        due("back(0)", x.back(0), NONE);
        AviaryLock told = new AviaryLock();
        due("house() of an empty tape", told.house(), 0);
        same("a new object is like one with an empty house", Looks.all(new AviaryLock()), Looks.all(told));
    }

    private void locks() {
        terms("lock (SEATS, 1 .. 20; 4 if not told)");
        ranged("lock ", 1, 20, ";");
        due("1 seat", Texts.with("lock 1;").about(5), 1);
        due("20 seats", Texts.with("lock 20;").about(5), 20);
        due("not told", Texts.with("dark;").about(5), 4);
        AviaryLock x = Texts.with("lock 20;");
        Texts.put(x, "latch;");
        x.house();
        due("not told, behind another house", x.about(5), 4);
    }

    private void springs() {
        terms("spring (of the outer, the inner DOOR: 1 .. 9 both; 2 both)");
        ranged("spring ", 1, 9, " 1;");
        ranged("spring 1 ", 1, 9, ";");
        String parties = "party 1 at 0 in;party 1 at 40 out;";
        int[][] tried = {{1, 9}, {9, 1}, {3, 4}};
        for (int[] spring : tried) {
            AviaryLock x = Texts.with("spring " + spring[0] + " " + spring[1] + ";" + parties);
            x.seconds(1);
            due("the outer door", x.door(0), spring[0]);
            due("the inner door is shut", x.door(1), 0);
            x.seconds(40);
            due("the inner door", x.door(1), spring[1]);
        }
        AviaryLock x = Texts.with(parties);
        x.seconds(1);
        due("the outer door, not told", x.door(0), 2);
        x.seconds(40);
        due("the inner door, not told", x.door(1), 2);
    }

    private void latchMannersDark() {
        terms("latch, manners (0 .. 100; 0), dark");
        due("no latch", Texts.with("dark;").about(9), 0);
        due("a latch", Texts.with("latch;").about(9), 1);
        ranged("manners ", 0, 100, ";");
        due("manners 100", Texts.with("manners 100;").about(10), 100);
        due("manners 0", Texts.with("manners 0;").about(10), 0);
        due("manners not told", Texts.with("dark;").about(10), 0);
        due("not dark", Texts.with("latch;").about(8), 0);
        due("dark", Texts.with("dark;").about(8), 1);
    }

    private void curtainAndDraw() {
        terms(", curtain (0 .. 9; 0)");
        ranged("curtain ", 0, 9, ";");
        due("a curtain of 9", Texts.with("curtain 9;").about(7), 9);
        due("a curtain of 0", Texts.with("curtain 0;").about(7), 0);
        due("a curtain not told", Texts.with("dark;").about(7), 0);
        terms(", draw (0 .. 999; 0)");
        ranged("draw ", 0, 999, ";");
        due("draw 999", Texts.with("draw 999;").about(4), 999);
        due("draw 0", Texts.with("draw 0;").about(4), 0);
        due("draw not told", Texts.with("dark;").about(4), 0);
    }

    private void onceEach() {
        terms("once each");
        String[] lines = {"lock 4;", "spring 1 1;", "latch;", "manners 5;", "dark;", "curtain 1;", "draw 1;"};
        String all = String.join("", lines);
        sound(all);
        for (String line : lines) {
            sound(line);
            fault(line + line, 2, line.length());
            fault(all + line, 2, all.length());
        }
        AviaryLock x = Texts.with(all);
        Texts.put(x, all);
        due("once in another house", x.house(), 0);
        Texts.put(x, "lock 4;lock 5;");
        due("twice there", x.house(), NONE);
        due("its place", x.fault(1), 7);
    }

    private void sorts() {
        terms("at most 4 SORTS (0 .. 240 birds)");
        ranged("sort a birds ", 0, 240, " slips 1;");
        String four = "sort a birds 0 slips 1;sort b birds 240 slips 1;sort c birds 1 slips 1;sort d birds 239 slips 1;";
        AviaryLock x = Texts.with(four);
        due("four", x.about(1), 4);
        int[] birds = {0, 240, 1, 239};
        for (int i = 0; i < 4; i++) {
            due("birds of sort " + i, x.sort(i, 0), birds[i]);
        }
        fault(four + "sort e birds 1 slips 1;", 2, four.length());
        due("none", Texts.with("dark;").about(1), 0);
    }

    private void parties() {
        terms("12 PARTIES (1 .. 9 heads, at a SECOND 0 .. 299)");
        ranged("party ", 1, 9, " at 1 in;");
        ranged("party 1 at ", 0, 299, " in;");
        String twelve = "party 1 at 0 in;party 9 at 299 out;".repeat(6);
        AviaryLock x = Texts.with(twelve);
        due("twelve", x.about(0), 12);
        due("heads of the first", x.party(0, 2), 1);
        due("heads of the last", x.party(11, 2), 9);
        due("the first comes", x.party(0, 4), 0);
        due("the last comes", x.party(11, 4), 299);
        fault(twelve + "party 1 at 1 in;", 2, twelve.length());
        terms("numbered as told");
        AviaryLock y = Texts.with("party 3 at 9 in;sort z birds 3 slips 1;party 2 at 0 out;sort a birds 5 slips 1;party 1 at 4 in;");
        int[] heads = {3, 2, 1};
        for (int i = 0; i < 3; i++) {
            due("party " + i, y.party(i, 2), heads[i]);
        }
        due("sort 0", y.sort(0, 0), 3);
        due("sort 1", y.sort(1, 0), 5);
    }

    private static String sum(int units) {
        return "1" + "+1".repeat(units - 1);
    }

    private void units() {
        terms("60 units in all");
        String[] shares = {"30 30", "20 20 20", "30 29 1", "15 15 15 15", "1 29 1 29"};
        for (String share : shares) {
            StringBuilder text = new StringBuilder();
            char name = 'a';
            for (String units : share.split(" ")) {
                text.append("sort ").append(name).append(" birds 1 slips ").append(sum(Integer.parseInt(units))).append(';');
                name++;
            }
            AviaryLock x = Texts.with(text.toString());
            due("units " + share, x.about(17), 60);
            if (name < 'e') {
                String more = text + "sort e birds 1 slips ";
                fault(more + "1;", 2, more.length());
                fault(more + "not 1;", 2, more.length() + 4);
                fault(more + "(1);", 2, more.length());
            } else {
                String more = text.substring(0, text.length() - 1);
                fault(more + "+1;", 2, more.length() + 1);
            }
        }
        due("59 units", Texts.with(SORT + sum(30) + ";sort b birds 1 slips " + sum(29) + ";").about(17), 59);
        due("none", Texts.with("dark;").about(17), 0);
        terms("30 in one e");
        AviaryLock x = Texts.with(SORT + sum(30) + ";");
        due("thirty", x.about(17), 30);
        due("odds by thirty", x.sort(0, 4), 30);
        fault(SORT + sum(31) + ";", 2, 21 + 60);
        // A unit ( e ) is a unit, too.
        due("28 in brackets and one behind", Texts.with(SORT + "(" + sum(28) + ")*2;").about(17), 30);
        fault(SORT + "(" + sum(29) + ")*2;", 2, 21 + 60);
        due("29 in brackets", Texts.with(SORT + "(" + sum(29) + ");").about(17), 30);
        fault(SORT + "(" + sum(30) + ");", 2, 21 + 60 - 1);
        sound(SORT + sum(30) + ";sort b birds 1 slips " + sum(30) + ";");
    }

    private void nesting() {
        terms("(a unit ( e ), or a one behind not, within 6 others at most)");
        String[] sound = {"(((((((1)))))))", "not not not not not not not 1", "not(not(not(not 1)))", "(not(not(not(1))))",
            "(((((((1)))))))+(((((((1)))))))", "not not not not not not not 1 and not not not not not not not 1", "not not not not not not (1+1)"};
        for (String formula : sound) {
            sound(SORT + formula + ";");
        }
        fault(SORT + "((((((((1))))))));", 2, 21 + 7);
        fault(SORT + "1+((((((((1))))))));", 2, 21 + 9);
        fault(SORT + "not ".repeat(8) + "1;", 2, 21 + 28);
        fault(SORT + "not(not(not(not(1))));", 2, 21 + 15);
        fault(SORT + "(not(not(not(not 1))));", 2, 21 + 13);
        due("odds by seven brackets", Texts.with(SORT + "(((((((1)))))))+(((((((2)))))));").sort(0, 4), 3);
        due("odds by seven nots", Texts.with(SORT + "not ".repeat(7) + "0;").sort(0, 4), 1);
        String nots = "not ".repeat(7) + "1";
        due("odds by as many nots as can be", Texts.with(SORT + nots + (" or " + nots).repeat(28) + " or 1;").sort(0, 4), 1);
    }

    private void constant() {
        terms("The constants: `NONE = -1`: There is none.");
        due("NONE", AviaryLock.NONE, -1);
    }

    private void feed() {
        promise(2, "Twenty bytes come behind those on the TAPE, of each number the highest first: how many there are;");
        AviaryLock x = new AviaryLock();
        for (int i = 1; i <= 80; i++) {
            due("feed " + i, x.feed(BLANKS, BLANKS, BLANKS, BLANKS, BLANKS), 20 * i);
        }
        due("bytes", x.about(16), 1600);
        for (int place = 0; place < 40; place++) {
            AviaryLock y = new AviaryLock();
            Texts.put(y, " ".repeat(place) + "!" + " ".repeat(39 - place));
            y.house();
            due("a sign in place " + place, y.fault(1), place);
        }
        for (int sign : new int[] {0, 127, 128, 255}) {
            AviaryLock y = new AviaryLock();
            y.feed(BLANKS, BLANKS, BLANKS, BLANKS, BLANKS & ~255 | sign);
            y.house();
            due("byte " + sign + " is no token", y.fault(0), 1);
            due("its place", y.fault(1), 19);
        }
        AviaryLock z = new AviaryLock();
        z.feed('l' << 24 | 'o' << 16 | 'c' << 8 | 'k', ' ' << 24 | '1' << 16 | '7' << 8 | ';', LEAST, MOST, -1);
        z.end(8);
        due("house()", z.house(), 0);
        due("seats", z.about(5), 17);
    }

    private void feedRefused() {
        promise(2, "NONE, and nothing comes, if there would be more than 1,600.");
        Scene full = x -> Texts.put(x, "lock 9;" + " ".repeat(1593));
        leaves("feed behind 1,600", full, x -> x.feed(0, 0, 0, 0, 0), NONE);
        AviaryLock y = after(full);
        y.feed(0x21212121, 0x21212121, 0x21212121, 0x21212121, 0x21212121);
        due("house() behind it", y.house(), 0);
        due("seats", y.about(5), 9);
        for (int bytes = 1579; bytes <= 1600; bytes++) {
            AviaryLock z = new AviaryLock();
            Texts.put(z, " ".repeat(bytes));
            boolean fits = bytes + 20 <= 1600;
            due("feed behind " + bytes, z.feed(BLANKS, BLANKS, BLANKS, BLANKS, BLANKS), fits ? bytes + 20 : NONE);
            due("bytes behind " + bytes, z.about(16), fits ? bytes + 20 : bytes);
        }
    }

    private void end() {
        promise(3, "The TAPE has its first n bytes: n;");
        AviaryLock x = new AviaryLock();
        due("end(0) of none", x.end(0), 0);
        Texts.put(x, "lock 7;lock 8;dark;!");
        due("end of all", x.end(20), 20);
        due("all bytes", x.about(16), 20);
        due("end(7)", x.end(7), 7);
        due("7 bytes", x.about(16), 7);
        due("feed behind them", x.feed(BLANKS, BLANKS, BLANKS, BLANKS, BLANKS), 27);
        due("house()", x.house(), 0);
        due("seats", x.about(5), 7);
        Texts.put(x, "!!!!!");
        due("end(0)", x.end(0), 0);
        due("no bytes", x.about(16), 0);
        due("house() of none", x.house(), 0);
        Texts.put(x, " ".repeat(1600));
        due("end of 1,600", x.end(1600), 1600);
        // What stood behind the end is no part of the text, were it the rest of a word or a number, or a letter behind one.
        endsAt("lock 12;", 6, 2, 6);
        endsAt("lock 1a;", 6, 2, 6);
        endsAt("latchs;", 5, 2, 5);
        endsAt("sort abcdefghi birds", 13, 2, 13);
        endsAt("lock 12345;", 9, 4, 5);
        endsAt("dark;!", 5, 0, NONE);
    }

    private void endsAt(String text, int n, int kind, int place) {
        AviaryLock x = new AviaryLock();
        Texts.put(x, text);
        x.end(n);
        x.house();
        due("fault of the first " + n + " of '" + text + "'", x.fault(0), kind);
        due("its place", x.fault(1), place);
    }

    private void endRefused() {
        promise(3, "NONE, doing nothing, if it has not so many, or n is below 0.");
        int bytes = after(Edges::busy).about(16);
        for (int n : new int[] {bytes + 1, 1600, 1601, MOST, -1, LEAST}) {
            leaves("end(" + n + ") of " + bytes, Edges::busy, x -> x.end(n), NONE);
        }
        leaves("end(1) of none", x -> { }, x -> x.end(1), NONE);
        leaves("end(1601) of 1,600", x -> Texts.put(x, " ".repeat(1600)), x -> x.end(1601), NONE);
        leaves("end(8) behind end(7)", x -> Texts.put(x, "lock 9;"), x -> x.end(8), NONE);
    }

    private void house() {
        promise(4, "The TAPE (empty then) is the HOUSE");
        AviaryLock x = new AviaryLock();
        Texts.put(x, "lock 9;party 1 at 0 in;");
        x.house();
        due("the house", x.about(5), 9);
        due("the tape", x.about(16), 0);
        due("house() of the empty tape", x.house(), 0);
        due("the house then", x.about(5), 4);
        due("its parties", x.about(0), 0);
        promise(4, "how many PARTIES;");
        for (int n : new int[] {0, 1, 12}) {
            AviaryLock y = new AviaryLock();
            Texts.put(y, "lock 9;" + "party 1 at 0 in;".repeat(n));
            due("house() of " + n, y.house(), n);
        }
    }

    private void houseBeginsAnew() {
        promise(4, "(SECOND 0, all as told, no ACTS are kept, no COUNTS are, nothing lies there, BOXES are empty then; the TIME stays):");
        String text = "lock 5;curtain 4;dark;draw 77;sort b birds 4 slips 9;party 3 at 1 in;";
        AviaryLock x = after(Edges::busy);
        x.week();
        x.seconds(30);
        x.undo();
        x.end(0);
        Texts.put(x, text);
        due("house()", x.house(), 1);
        AviaryLock y = new AviaryLock();
        Texts.put(y, text);
        y.house();
        y.later(4);
        same("a house behind another is like the first one", Looks.all(x), Looks.all(y));
        due("the second", x.about(2), 0);
        due("the week", x.about(3), 0);
        due("the time", x.about(15), 4);
        due("undo()", x.undo(), false);
        due("redo()", x.redo(), false);
        due("untell(1)", x.untell(1), false);
        due("count() is the first", x.count(0, 0, 1, 0), 0);
        due("lies(0)", x.lies(0), NONE);
        for (int box = 0; box < 3; box++) {
            due("back(" + box + ")", x.back(box), NONE);
        }
        AviaryLock latched = Texts.with("lock 20;spring 9 9;latch;manners 100;dark;curtain 9;draw 999;");
        Texts.put(latched, "party 1 at 0 in;party 1 at 40 out;");
        latched.house();
        int[] notTold = {2, 0, 0, 0, 0, 4, 0, 0, 0, 0, 0};
        for (int what = 0; what < notTold.length; what++) {
            due("what is not told any more, about(" + what + ")", latched.about(what), notTold[what]);
        }
        latched.seconds(1);
        due("the outer spring", latched.door(0), 2);
        latched.seconds(40);
        due("the inner spring", latched.door(1), 2);
        AviaryLock z = after(Edges::busy);
        z.end(0);
        due("an empty house", z.house(), 0);
        y = new AviaryLock();
        y.house();
        y.later(4);
        same("an empty house behind another", Looks.all(z), Looks.all(y));
    }

    private void houseRefused() {
        promise(4, "NONE: a FAULT (all stays).");
        // The busy scene's tape has its fault already, which is told once more.
        leaves("house() with a fault", Edges::busy, x -> x.house(), NONE);
        String[] texts = {"!", "lock 4;lock 4;", "sort a birds 1 slips 1;sort a birds 1 slips 1;", "lock 9;party 1 at 300 in;",
            "lock 9;spring 9 9;latch;manners 9;dark;curtain 9;draw 9;sort a birds 9 slips 9;party 9 at 9 in;sort b birds 1 slips"};
        for (String text : texts) {
            AviaryLock x = after(Edges::busy);
            x.end(0);
            Texts.put(x, text);
            AviaryLock y = after(Edges::busy);
            y.end(0);
            Texts.put(y, text);
            due("house() of '" + text + "'", x.house(), NONE);
            same("all stays behind '" + text + "'", Looks.stays(x), Looks.stays(y));
            same("undo, redo, boxes behind '" + text + "'", Looks.unwound(x), Looks.unwound(y));
        }
        AviaryLock z = new AviaryLock();
        Texts.put(z, "lock 9;party");
        due("house()", z.house(), NONE);
        due("bytes stay", z.about(16), 12);
        due("cut", z.end(7), 7);
        due("house() of what stayed", z.house(), 0);
        due("seats", z.about(5), 9);
    }

    private void fault() {
        promise(5, "Of the latest house() what 0: its FAULT (0), 1: its place (NONE).");
        AviaryLock x = new AviaryLock();
        due("none yet", x.fault(0), 0);
        due("no place yet", x.fault(1), NONE);
        String[] texts = {"!", "lock 4;5", "sort a birds 1 slips 1;sort a", "lock 21;", "lock 20;"};
        int[] kinds = {1, 2, 3, 4, 0};
        int[] places = {0, 7, 28, 5, NONE};
        for (int i = 0; i < texts.length; i++) {
            x.end(0);
            Texts.put(x, texts[i]);
            due("no house() yet", x.fault(0), i == 0 ? 0 : kinds[i - 1]);
            x.house();
            due("fault of '" + texts[i] + "'", x.fault(0), kinds[i]);
            due("place in '" + texts[i] + "'", x.fault(1), places[i]);
        }
        promise(5, "NONE for another what.");
        for (int what : new int[] {-1, 2, LEAST, MOST}) {
            due("fault(" + what + ") with a fault", after(Edges::busy).fault(what), NONE);
            due("fault(" + what + ") with none", new AviaryLock().fault(what), NONE);
        }
    }
}
