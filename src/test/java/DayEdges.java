/** The edges of a day: promises 18 to 25. */
final class DayEdges extends Edges {
    private static final int[] NO_WHAT = {-1, LEAST, MOST};

    DayEdges(Check check, Doc doc) {
        super(check, doc);
    }

    @Override
    void run() {
        nothingIsDone();
        howMany();
        longestWait();
        waitsTogether();
        allThatThereAre();
        day();
        then();
        peak();
        stuck();
        holds();
        holders();
        opened();
        crossings();
    }

    private void nothingIsDone() {
        terms("(From what is now; nothing is done.)");
        Call[] asked = {x -> x.day(0), x -> x.day(1), x -> x.day(2), x -> x.day(3), x -> x.day(4), x -> x.day(5), x -> x.then(0, 0), x -> x.peak(0),
            x -> x.stuck(), x -> x.holds(), x -> x.holders(), x -> x.opened(0), x -> x.crossings(), x -> x.polite(3), x -> x.without(0),
            x -> x.gone(0), x -> x.large(5), x -> x.springs(0), x -> x.worth(0), x -> x.worth(1), x -> x.worth(2), x -> x.chance(0, 4, 4, 0)};
        for (int i = 0; i < asked.length; i++) {
            long want = asked[i].on(after(Edges::busy));
            leaves("asking " + i, Edges::busy, asked[i], want);
        }
        // What lies there lies there already.
        Scene ordered = x -> {
            busy(x);
            x.order(2);
        };
        leaves("order(2) once more", ordered, x -> x.order(2), after(ordered).order(2));
        Scene veiled = x -> {
            busy(x);
            x.veils(4);
        };
        leaves("veils(4) once more", veiled, x -> x.veils(4), after(veiled).veils(4));
        AviaryLock x = Texts.with("lock 1;spring 1 1;party 1 at 0 in;party 1 at 0 in;party 1 at 5 in;");
        int[] left = {7, 6, 5, 4, 3, 2, 1, 0, 0};
        for (int want : left) {
            due("seconds left from second " + x.about(2) + " on", x.day(0), want);
            x.seconds(1);
        }
    }

    private void howMany() {
        terms("DAY: SECONDS go by till all PARTIES are through (900 at most): how many;");
        due("nobody", new AviaryLock().day(0), 0);
        due("nobody in a house of birds", Texts.with("sort a birds 9 slips 9;").day(0), 0);
        due("one", Texts.with("spring 1 1;party 1 at 0 in;").day(0), 2);
        due("one that comes last", Texts.with("spring 1 1;party 1 at 299 in;").day(0), 301);
        // The longest day that ends: one by one, each 18 seconds behind the one ahead, the last one through 9 seconds behind its own.
        AviaryLock longest = Texts.with("lock 9;latch;spring 9 9;" + "party 9 at 299 in;".repeat(12));
        due("the longest day", longest.day(0), 299 + 11 * 18 + 9 + 1);
        longest.seconds(100);
        due("from second 100 on", longest.day(0), 299 + 11 * 18 + 9 + 1 - 100);
        due("the longest wait in it", longest.day(1), 11 * 18);
        AviaryLock x = Texts.with("party 1 at 0 in;");
        for (int i = 0; i < 6; i++) {
            x.seconds(300);
        }
        x.seconds(200);
        due("all are through, second 2,000", x.day(0), 0);
        AviaryLock y = Texts.with("lock 9;party 9 at 0 in pram;");
        for (int i = 0; i < 6; i++) {
            y.seconds(300);
        }
        y.seconds(200);
        due("not by 900 from second 2,000 on", y.day(0), NONE);
        due("who waits is not through", y.stuck(), 1);
    }

    private void longestWait() {
        terms("the longest WAIT (of those that entered);");
        // The first never enters; the second one waits behind it, the third one, that goes out, does not.
        AviaryLock x = Texts.with("party 5 at 0 in;party 1 at 0 in;party 1 at 0 out;");
        due("by one that entered at once", x.day(1), 0);
        AviaryLock y = Texts.with("lock 1;latch;party 1 at 0 in;party 1 at 3 in;party 9 at 4 in;");
        due("by one that waited a second", y.day(1), 1);
        due("the day does not end", y.day(0), NONE);
    }

    private void waitsTogether() {
        terms("all WAITS together;");
        AviaryLock x = Texts.with("lock 1;latch;spring 9 9;" + "party 1 at 0 in;".repeat(12));
        due("twelve", x.day(2), 18 * 66);
        x.seconds(300);
        due("those that entered ahead of now count, too", x.day(2), 18 * 66);
        x.week();
        due("in another week anew", x.day(2), 18 * 66);
        due("of none", new AviaryLock().day(2), 0);
        due("one that never enters has none", Texts.with("party 9 at 0 in;").day(2), 0);
    }

    private void allThatThereAre() {
        terms("GAPS, birds OUTSIDE, heads through, all that there are then.");
        // Each holds the inner door a second behind it came: one gap each, by which all of ten get out.
        AviaryLock x = Texts.with("manners 100;sort a birds 10 slips gap*100;party 2 at 0 in;party 3 at 20 in;");
        due("gaps ahead of all", x.day(3), 2);
        due("heads ahead of all", x.day(5), 5);
        x.seconds(10);
        due("gaps now", x.about(11), 1);
        due("gaps by then", x.day(3), 2);
        due("birds by then", x.day(4), 10);
        due("heads by then", x.day(5), 5);
        x.seconds(30);
        due("gaps behind all", x.day(3), 2);
        due("birds behind all", x.day(4), 10);
        due("heads behind all", x.day(5), 5);
        x.week();
        due("gaps in another week", x.day(3), 4);
        due("birds in another week", x.day(4), 10);
        due("heads in another week, those of its day", x.day(5), 5);
        due("heads of twelve", Texts.with("lock 9;" + "party 9 at 0 in;".repeat(12)).day(5), 108);
        due("heads of those that are not through", Texts.with("party 9 at 0 in;party 2 at 0 out;").day(5), 2);
    }

    private void day() {
        promise(18, "DAY what 0: SECONDS (NONE if 900 are not enough),");
        due("enough", Texts.with("party 4 at 0 in;").day(0), 3);
        due("not enough", Texts.with("party 5 at 0 in;").day(0), NONE);
        due("not enough for one of two", Texts.with("party 4 at 0 out;party 5 at 0 in;").day(0), NONE);
        promise(18, "1: the longest WAIT (0 of none),");
        due("nobody comes", new AviaryLock().day(1), 0);
        due("nobody enters", Texts.with("party 5 at 0 in;").day(1), 0);
        due("all enter at once", Texts.with("party 4 at 0 in;").day(1), 0);
        promise(18, "2: WAITS together, 3: GAPS, 4: all OUTSIDE, 5: heads through;");
        // By springs of 1 a draw for the hold in second 0 (71), two for each of two sorts: 98, 97, 60, 91.
        AviaryLock x = Texts.with("manners 72;lock 9;spring 1 1;sort a birds 10 slips 50;sort b birds 20 slips 100;party 2 at 0 in;party 3 at 0 out;party 1 at 0 in;");
        x.seconds(1);
        due("outside of the first", x.sort(0, 2), 3);
        due("outside of the second", x.sort(1, 2), 20);
        due("waits", x.day(2) > 0, true);
        due("gaps", x.day(3) >= 1, true);
        due("outside of both", x.day(4), x.then(0, 2) + x.then(1, 2));
        due("outside of the second by then", x.then(1, 2), 20);
        due("heads", x.day(5), 6);
        promise(18, "NONE for another what.");
        leaves("day(6)", Edges::busy, y -> y.day(6), NONE);
        for (int what : NO_WHAT) {
            leaves("day(" + what + ")", Edges::busy, y -> y.day(what), NONE);
        }
    }

    private void then() {
        promise(19, "Of a SORT behind DAY what 0: WITHIN, 1: BETWEEN, 2: OUTSIDE;");
        AviaryLock x = Texts.with("spring 1 1;sort z birds 0 slips 0;sort a birds 100 slips 50;party 1 at 0 out;");
        // Draws 71, 98 in second 0, 97, 60 in second 1: (5000 + 98) / 100 = 50 between, (2500 + 60) / 100 = 25 outside.
        int[] want = {50, 25, 25};
        for (int what = 0; what < 3; what++) {
            due("then(1, " + what + ")", x.then(1, what), want[what]);
            due("then(0, " + what + ")", x.then(0, what), 0);
            due("now", x.sort(1, what), what == 0 ? 100 : 0);
        }
        x.seconds(2);
        for (int what = 0; what < 3; what++) {
            due("then(1, " + what + ") behind it all", x.then(1, what), want[what]);
        }
        promise(19, "NONE likewise, if there is none such.");
        for (int what : new int[] {-1, 3, 4, LEAST, MOST}) {
            leaves("then(0, " + what + ")", Edges::busy, y -> y.then(0, what), NONE);
        }
        for (int sort : new int[] {-1, 2, 4, LEAST, MOST}) {
            due("then(" + sort + ", 0)", after(Edges::busy).then(sort, 0), NONE);
        }
        due("of an empty house", new AviaryLock().then(0, 0), NONE);
    }

    private void peak() {
        promise(20, "The most that wait at once in DAY (behind (3) of a SECOND) what 0: outside, 1: inside, 2: heads in the lock;");
        AviaryLock x = Texts.with("lock 20;latch;" + "party 2 at 0 in;".repeat(6) + "party 1 at 0 out;".repeat(6));
        // Six come outside and one of them enters at once; all six inside wait for the doors.
        due("outside", x.peak(0), 5);
        due("inside", x.peak(1), 6);
        due("heads", x.peak(2), 12);
        AviaryLock one = Texts.with("party 3 at 0 in pram;lock 5;");
        due("who enters at once does not wait", one.peak(0), 0);
        due("heads, not seats", one.peak(2), 3);
        AviaryLock stuck = Texts.with("lock 1;" + "party 2 at 9 in;".repeat(12));
        due("twelve outside", stuck.peak(0), 12);
        due("no heads", stuck.peak(2), 0);
        stuck.seconds(300);
        due("they wait still", stuck.peak(0), 12);
        AviaryLock later = Texts.with("lock 4;latch;party 4 at 0 in;party 1 at 0 in;party 1 at 0 in;");
        later.seconds(5);
        // Two waited in second 4; by then one of them has entered, and the other one does in second 5.
        due("in the day alone", later.peak(0), 0);
        due("ahead of it", Texts.with("lock 4;latch;party 4 at 0 in;party 1 at 0 in;party 1 at 0 in;").peak(0), 2);
        promise(20, "NONE for another what.");
        leaves("peak(3)", Edges::busy, y -> y.peak(3), NONE);
        for (int what : NO_WHAT) {
            leaves("peak(" + what + ")", Edges::busy, y -> y.peak(what), NONE);
        }
        promise(20, "(0 if no SECOND goes by.)");
        for (int what = 0; what < 3; what++) {
            due("peak(" + what + ") of nobody", new AviaryLock().peak(what), 0);
            due("peak(" + what + ") behind all", after(Edges::quiet).peak(what), 0);
        }
    }

    private void stuck() {
        promise(21, "PARTIES that are not through behind DAY, as bits.");
        due("nobody", new AviaryLock().stuck(), 0);
        due("none", Texts.with("party 4 at 0 in;".repeat(12)).stuck(), 0);
        due("all twelve", Texts.with("party 5 at 0 in;".repeat(12)).stuck(), 4095);
        due("the first", Texts.with("party 5 at 9 in;party 1 at 0 in;").stuck(), 1);
        due("the last of twelve", Texts.with("party 1 at 0 in;".repeat(11) + "party 5 at 9 in;").stuck(), 2048);
        due("who waits behind one", Texts.with("party 1 at 9 in;party 5 at 8 in;party 1 at 9 out;").stuck(), 3);
    }

    private void holds() {
        promise(22, "How many times a PARTY HOLDS in DAY (of all, by any number of them).");
        due("nobody", new AviaryLock().holds(), 0);
        due("by no manners", Texts.with("party 1 at 0 in;").holds(), 0);
        due("by a latch", Texts.with("latch;manners 100;party 1 at 0 in;").holds(), 0);
        due("one", Texts.with("manners 100;party 1 at 0 in;").holds(), 1);
        // Who goes out holds the inner door in second 0 and the outer one, shut by then, in second 1.
        due("one that holds twice", Texts.with("manners 100;lock 9;spring 1 1;party 1 at 0 in;party 1 at 0 out;").holds(), 2);
        StringBuilder text = new StringBuilder("manners 100;");
        for (int i = 0; i < 12; i++) {
            text.append("party 1 at ").append(20 * i).append(" in;");
        }
        AviaryLock x = Texts.with(text.toString());
        due("twelve", x.holds(), 12);
        x.seconds(2);
        due("not those ahead of now", x.holds(), 11);
        x.seconds(300);
        due("none is left", x.holds(), 0);
    }

    private void holders() {
        promise(23, "PARTIES that HOLD in DAY, as bits.");
        due("nobody", new AviaryLock().holders(), 0);
        due("by no manners", Texts.with("party 1 at 0 in;").holders(), 0);
        due("one that holds twice", Texts.with("manners 100;lock 9;spring 1 1;party 1 at 0 in;party 1 at 0 out;").holders(), 2);
        StringBuilder text = new StringBuilder("manners 100;");
        for (int i = 0; i < 12; i++) {
            text.append("party 1 at ").append(20 * i).append(" in;");
        }
        AviaryLock x = Texts.with(text.toString());
        due("all twelve", x.holders(), 4095);
        x.seconds(2);
        due("not those ahead of now", x.holders(), 4094);
        x.seconds(219);
        due("the last", x.holders(), 2048);
        x.seconds(1);
        due("none is left", x.holders(), 0);
    }

    private void opened() {
        promise(24, "In how many SECONDS of DAY a DOOR (0 outer, 1 inner) is open behind (3);");
        due("nobody, outer", new AviaryLock().opened(0), 0);
        due("nobody, inner", new AviaryLock().opened(1), 0);
        // The day ends with the second in which the inner door is passed.
        AviaryLock x = Texts.with("latch;spring 9 9;party 1 at 0 in;");
        due("outer", x.opened(0), 9);
        due("inner", x.opened(1), 1);
        x.seconds(1);
        due("outer, from second 1 on", x.opened(0), 8);
        x.seconds(9);
        due("outer, behind all", x.opened(0), 0);
        due("inner, behind all though it is open", x.opened(1), 0);
        due("it is open", x.door(1) > 0, true);
        AviaryLock one = Texts.with("latch;spring 1 1;party 1 at 0 in;party 1 at 9 in;");
        due("springs of 1, outer", one.opened(0), 2);
        due("springs of 1, inner", one.opened(1), 2);
        AviaryLock never = Texts.with("party 9 at 0 in;");
        due("nobody passes", never.opened(0) + never.opened(1), 0);
        promise(24, "NONE for another one.");
        leaves("opened(2)", Edges::busy, y -> y.opened(2), NONE);
        for (int door : NO_WHAT) {
            leaves("opened(" + door + ")", Edges::busy, y -> y.opened(door), NONE);
        }
    }

    private void crossings() {
        promise(25, "In how many SECONDS of DAY some that go in and some that go out are in the lock at once (behind (3)).");
        due("nobody", new AviaryLock().crossings(), 0);
        due("all go in", Texts.with("lock 9;manners 100;party 1 at 0 in;party 1 at 0 in;").crossings(), 0);
        due("all go out", Texts.with("lock 9;manners 100;party 1 at 0 out;party 1 at 0 out;").crossings(), 0);
        AviaryLock x = Texts.with("lock 9;manners 100;party 1 at 0 in;party 1 at 0 out;");
        due("both in second 0", x.crossings(), 1);
        x.seconds(1);
        due("behind it", x.crossings(), 0);
        // One leaves by the inner door in the second in which the other one enters by it.
        due("one behind the other", Texts.with("lock 1;latch;party 1 at 0 in;party 1 at 0 out;").crossings(), 0);
        // Draws 60 (out holds in second 0), 91 (it does not in second 1), 38 (the other one that goes in holds then), 77.
        AviaryLock y = Texts.with("draw 397;manners 70;spring 1 3;lock 9;party 1 at 0 in;party 1 at 0 out;party 1 at 1 in;");
        due("two seconds with both", y.crossings(), 2);
        y.seconds(1);
        due("one of them is left", y.crossings(), 1);
    }
}
