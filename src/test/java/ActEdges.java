/** The edges of what is so now and of acts: promises 6 to 17, 35, 43 to 45. */
final class ActEdges extends Edges {
    private static final int[] NO_SORT = {-1, 2, 4, LEAST, MOST};

    ActEdges(Check check, Doc doc) {
        super(check, doc);
    }

    @Override
    void run() {
        sort();
        party();
        door();
        line();
        seconds();
        secondsRefused();
        net();
        netRefused();
        food();
        foodRefused();
        curtain();
        dusk();
        week();
        lastWeek();
        undo();
        redo();
        fortyActs();
        board();
        image();
        back();
        about();
    }

    private void sort() {
        promise(6, "Of a SORT what 0: WITHIN, 1: BETWEEN, 2: OUTSIDE, 3: slipped, 4: ODDS now;");
        // Draws 71 and 98: 50 of 100 go between, (50 * 50 + 98) / 100 = 25 outside; the second sort takes draws, too, behind the first.
        AviaryLock x = Texts.with("spring 1 1;sort a birds 100 slips 50;party 1 at 0 out;");
        int[][] want = {{100, 0, 0, 0, 50}, {50, 50, 0, 0, 50}, {50, 25, 25, 25, 50}};
        for (int[] second : want) {
            for (int what = 0; what < 5; what++) {
                due("sort(0, " + what + ") ahead of second " + x.about(2), x.sort(0, what), second[what]);
            }
            x.seconds(1);
        }
        promise(6, "NONE if there is none such, or for another what.");
        AviaryLock four = Texts.with("sort a birds 1 slips 1;sort b birds 2 slips 1;sort c birds 3 slips 1;sort d birds 4 slips 1;");
        due("the last of four", four.sort(3, 0), 4);
        due("a fifth", four.sort(4, 0), NONE);
        for (int what : new int[] {-1, 5, LEAST, MOST}) {
            leaves("sort(0, " + what + ")", Edges::busy, y -> y.sort(0, what), NONE);
        }
        for (int sort : NO_SORT) {
            for (int what = -1; what <= 5; what++) {
                due("sort(" + sort + ", " + what + ")", after(Edges::busy).sort(sort, what), NONE);
            }
        }
        due("none of an empty house", new AviaryLock().sort(0, 4), NONE);
    }

    private void party() {
        promise(7, "Of a PARTY what 0: 0 did not come, 1 waits, 2 is in the lock, 3 is through,");
        AviaryLock x = Texts.with("lock 1;party 1 at 1 in;party 1 at 1 in;");
        int[] first = {0, 0, 2, 2, 3, 3};
        int[] second = {0, 0, 1, 1, 1, 1, 2, 2, 3};
        for (int i = 0; i < second.length; i++) {
            due("the first ahead of second " + i, x.party(0, 0), first[Math.min(i, 5)]);
            due("the second ahead of second " + i, x.party(1, 0), second[i]);
            x.seconds(1);
        }
        promise(7, "1: its WAIT (NONE if it did not enter),");
        AviaryLock y = Texts.with("lock 1;party 1 at 1 in;party 1 at 1 in;");
        int[] wait = {NONE, NONE, NONE, NONE, NONE, NONE, 4, 4, 4};
        for (int i = 0; i < wait.length; i++) {
            due("ahead of second " + i, y.party(1, 1), wait[i]);
            y.seconds(1);
        }
        due("the first", y.party(0, 1), 0);
        promise(7, "2: heads, 3: SEATS, 4: when it comes, 5: 1 if it goes in, else 0;");
        AviaryLock z = Texts.with("party 1 at 0 in;party 9 at 299 out pram;");
        int[][] want = {{1, 1, 0, 1}, {9, 11, 299, 0}};
        for (int party = 0; party < 2; party++) {
            for (int what = 2; what < 6; what++) {
                due("party(" + party + ", " + what + ")", z.party(party, what), want[party][what - 2]);
            }
        }
        promise(7, "NONE if there is none such, or for another what.");
        AviaryLock twelve = Texts.with("party 2 at 0 in;".repeat(12));
        due("the twelfth", twelve.party(11, 2), 2);
        due("a thirteenth", twelve.party(12, 2), NONE);
        for (int none : new int[] {-1, 5, 12, LEAST, MOST}) {
            for (int what = -1; what <= 6; what++) {
                due("party(" + none + ", " + what + ")", after(Edges::busy).party(none, what), NONE);
            }
        }
        for (int what : new int[] {-1, 6, LEAST, MOST}) {
            leaves("party(0, " + what + ")", Edges::busy, b -> b.party(0, what), NONE);
        }
        due("none of an empty house", new AviaryLock().party(0, 0), NONE);
    }

    private void door() {
        promise(8, "Of the outer DOOR (0), the inner one (1): for how many SECONDS more it is open (0: shut);");
        AviaryLock x = Texts.with("spring 1 9;party 1 at 0 in;");
        int[] outer = {0, 1, 0, 0};
        int[] inner = {0, 0, 9, 8, 7, 6, 5, 4, 3, 2, 1, 0, 0};
        for (int i = 0; i < inner.length; i++) {
            due("the outer one ahead of second " + i, x.door(0), outer[Math.min(i, 3)]);
            due("the inner one ahead of second " + i, x.door(1), inner[i]);
            x.seconds(1);
        }
        promise(8, "NONE for another one.");
        for (int door : new int[] {-1, 2, LEAST, MOST}) {
            leaves("door(" + door + ")", Edges::busy, b -> b.door(door), NONE);
        }
    }

    private void line() {
        promise(9, "How many PARTIES wait outside (0), inside (1), are in the lock (2);");
        AviaryLock x = Texts.with("lock 20;latch;" + "party 1 at 0 in;party 1 at 1 out;".repeat(6));
        for (int what = 0; what < 3; what++) {
            due("line(" + what + ") at first", x.line(what), 0);
        }
        x.seconds(1);
        due("outside", x.line(0), 5);
        due("inside", x.line(1), 0);
        due("in the lock", x.line(2), 1);
        x.seconds(1);
        due("inside then", x.line(1), 6);
        AviaryLock y = Texts.with("lock 1;" + "party 2 at 0 in;".repeat(12));
        y.seconds(1);
        due("twelve outside", y.line(0), 12);
        AviaryLock z = Texts.with("lock 1;" + "party 2 at 0 out;".repeat(12));
        z.seconds(1);
        due("twelve inside", z.line(1), 12);
        AviaryLock w = Texts.with("lock 20;spring 9 9;latch;" + "party 1 at 0 in;".repeat(12));
        w.seconds(12);
        due("twelve in the lock", w.line(2), 12);
        promise(9, "NONE for another what.");
        for (int what : new int[] {-1, 3, LEAST, MOST}) {
            leaves("line(" + what + ")", Edges::busy, b -> b.line(what), NONE);
        }
    }

    private void seconds() {
        promise(10, "SECONDS (0 .. 300) go by: the SECOND;");
        AviaryLock x = Texts.with("party 1 at 0 in;party 1 at 299 in;");
        due("seconds(0)", x.seconds(0), 0);
        due("nobody came", x.party(0, 0), 0);
        due("seconds(1)", x.seconds(1), 1);
        due("one came", x.party(0, 0), 2);
        due("seconds(300)", x.seconds(300), 301);
        due("the other came", x.party(1, 0), 2);
        due("seconds(299)", x.seconds(299), 600);
        terms("ACTS: SECONDS go by;");
        isAct("seconds(0)", Edges::busy, y -> y.seconds(0));
        isAct("seconds(1)", Edges::busy, y -> y.seconds(1));
        isAct("seconds(300)", Edges::busy, y -> y.seconds(300));
        promise(10, "(An ACT.)");
        isAct("seconds(7)", Edges::quiet, y -> y.seconds(7));
        isNoAct("seconds(301)", Edges::busy, y -> y.seconds(301));
    }

    private void secondsRefused() {
        promise(10, "NONE, doing nothing, for another number, or if it would be above 2,000.");
        for (int n : new int[] {-1, 301, LEAST, MOST}) {
            leaves("seconds(" + n + ")", Edges::busy, x -> x.seconds(n), NONE);
        }
        Scene late = x -> {
            busy(x);
            for (int i = 0; i < 6; i++) {
                x.seconds(300);
            }
            x.seconds(199 - x.about(2) + 1800);
        };
        due("the second", after(late).about(2), 1999);
        due("seconds(1) to 2,000", after(late).seconds(1), 2000);
        due("seconds(0)", after(late).seconds(0), 1999);
        leaves("seconds(2) past 2,000", late, x -> x.seconds(2), NONE);
        leaves("seconds(300) past 2,000", late, x -> x.seconds(300), NONE);
        Scene last = x -> {
            late.play(x);
            x.seconds(1);
        };
        due("seconds(0) at 2,000", after(last).seconds(0), 2000);
        leaves("seconds(1) at 2,000", last, x -> x.seconds(1), NONE);
        AviaryLock y = after(last);
        y.week();
        due("seconds(300) in another week", y.seconds(300), 300);
        AviaryLock z = after(last);
        z.undo();
        due("seconds(1) behind undo()", z.seconds(1), 2000);
    }

    /** Ahead of second 2 some are between and the inner door is open; behind second 3 the outer one is, behind second 4 none. */
    private static void netting(AviaryLock x) {
        Texts.put(x, "spring 1 2;sort a birds 10 slips 50;sort b birds 0 slips 50;party 1 at 1 out;");
        x.house();
        x.seconds(2);
    }

    private void net() {
        terms("NET: all of a SORT that are BETWEEN are WITHIN, if both DOORS are shut;");
        AviaryLock x = after(ActEdges::netting);
        x.seconds(4);
        int between = x.sort(0, 1);
        int within = x.sort(0, 0);
        due("some are between", between > 0, true);
        due("doors", x.door(0) + x.door(1), 0);
        due("net(0)", x.net(0), between);
        due("within", x.sort(0, 0), within + between);
        due("between", x.sort(0, 1), 0);
        promise(11, "NET: how many;");
        due("net(0) once more", x.net(0), 0);
        due("net(1) of no birds", x.net(1), 0);
        AviaryLock y = Texts.with("sort a birds 240 slips 100;party 1 at 0 out;spring 1 1;");
        due("net(0) at first", y.net(0), 0);
        Scene shut = z -> {
            netting(z);
            z.seconds(4);
        };
        promise(11, "(An ACT.)");
        isAct("net(0)", shut, z -> z.net(0));
        isAct("net(1) of no birds", shut, z -> z.net(1));
        isNoAct("net(0) by an open door", ActEdges::netting, z -> z.net(0));
    }

    private void netRefused() {
        promise(11, "NONE, doing nothing, if a DOOR is open, or there is no such SORT.");
        AviaryLock x = after(ActEdges::netting);
        due("the inner door is open", x.door(1), 2);
        due("the outer one is not", x.door(0), 0);
        leaves("net(0) by an open inner door", ActEdges::netting, y -> y.net(0), NONE);
        Scene outer = y -> {
            netting(y);
            y.seconds(2);
        };
        due("the outer door is open", after(outer).door(0), 1);
        due("the inner one is not", after(outer).door(1), 0);
        leaves("net(0) by an open outer door", outer, y -> y.net(0), NONE);
        Scene both = y -> {
            Texts.put(y, "manners 100;lock 9;sort a birds 10 slips 50;party 1 at 0 in;party 1 at 0 out;");
            y.house();
            y.seconds(1);
        };
        due("both doors are open", after(both).door(0) + after(both).door(1), 4);
        leaves("net(0) by two open doors", both, y -> y.net(0), NONE);
        Scene shut = y -> {
            netting(y);
            y.seconds(3);
        };
        due("net(0) in the second behind it", after(shut).net(0) > 0, true);
        for (int sort : NO_SORT) {
            leaves("net(" + sort + ")", shut, y -> y.net(sort), NONE);
        }
        leaves("net(0) of an empty house", y -> { }, y -> y.net(0), NONE);
    }

    /** All ten are outside; the next draws are 97, 60, 91, 38. */
    private static void feeding(AviaryLock x) {
        Texts.put(x, "spring 1 1;sort a birds 10 slips 100;party 1 at 0 out;");
        x.house();
        x.seconds(2);
    }

    private void food() {
        terms("FOOD for a SORT (1 .. 9 seeds): as many go from OUTSIDE to WITHIN as there are, times ten times the seeds, "
            + "and a DRAW more, by 100 (cut; no more than there are);");
        // (10 * 10 + 97) / 100 by one seed, (10 * 90 + 97) / 100 by nine.
        for (int seeds = 1; seeds <= 9; seeds++) {
            AviaryLock x = after(ActEdges::feeding);
            int come = (100 * seeds + 97) / 100;
            due("food(0, " + seeds + ")", x.food(0, seeds), come);
            due("outside", x.sort(0, 2), 10 - come);
            due("within", x.sort(0, 0), come);
            due("slipped", x.sort(0, 3), 10);
        }
        AviaryLock many = Texts.with("spring 1 1;sort a birds 240 slips 100;party 1 at 0 out;");
        many.seconds(2);
        // The draw is 97: (240 * 10 + 97) / 100 by one seed, (240 * 90 + 97) / 100 by nine.
        due("food(0, 1) for 240", many.food(0, 1), 24);
        many.undo();
        due("food(0, 9) for 240", many.food(0, 9), 216);
        AviaryLock all = Texts.with("spring 1 1;draw 40;sort a birds 1 slips 100;party 1 at 0 out;");
        all.seconds(2);
        // Seeds 551, 558, 517, 900: a draw of 17 is not enough for one seed, one of 0 not for nine.
        due("food(0, 1) for one", all.food(0, 1), 0);
        due("food(0, 9) for one", all.food(0, 9), 0);
        due("outside still", all.sort(0, 2), 1);
        promise(12, "FOOD: how many come;");
        AviaryLock none = Texts.with("sort a birds 10 slips 100;");
        due("food for none outside", none.food(0, 9), 0);
        due("a draw all the same", none.about(4), 71);
        AviaryLock one = Texts.with("spring 1 1;sort a birds 1 slips 100;party 1 at 0 out;");
        one.seconds(2);
        due("food(0, 1), a draw of 97 for one", one.food(0, 1), 1);
        due("no more than there are", one.food(0, 9), 0);
        promise(12, "(An ACT.)");
        isAct("food(0, 9)", ActEdges::feeding, x -> x.food(0, 9));
        isAct("food(1, 1)", Edges::busy, x -> x.food(1, 1));
        isNoAct("food(0, 0)", Edges::busy, x -> x.food(0, 0));
    }

    private void foodRefused() {
        promise(12, "NONE, doing nothing, if one can't be.");
        for (int seeds : new int[] {0, 10, -1, LEAST, MOST}) {
            leaves("food(0, " + seeds + ")", ActEdges::feeding, x -> x.food(0, seeds), NONE);
        }
        for (int sort : NO_SORT) {
            leaves("food(" + sort + ", 1)", Edges::busy, x -> x.food(sort, 1), NONE);
        }
        leaves("food(0, 1) of an empty house", x -> { }, x -> x.food(0, 1), NONE);
    }

    private void curtain() {
        terms("the curtain is another one;");
        AviaryLock x = Texts.with("curtain 4;sort a birds 1 slips veil;");
        due("curtain(7)", x.curtain(7), 4);
        due("the curtain", x.about(7), 7);
        due("odds by it", x.sort(0, 4), 7);
        promise(13, "The curtain is another one (0 .. 9): what it was;");
        due("curtain(0)", x.curtain(0), 7);
        due("curtain(9)", x.curtain(9), 0);
        due("curtain(9) once more", x.curtain(9), 9);
        due("the curtain then", x.about(7), 9);
        promise(13, "NONE, doing nothing, for another number.");
        for (int n : new int[] {-1, 10, LEAST, MOST}) {
            leaves("curtain(" + n + ")", Edges::busy, y -> y.curtain(n), NONE);
        }
        promise(13, "(An ACT.)");
        isAct("curtain(0)", Edges::busy, y -> y.curtain(0));
        isAct("curtain(9)", Edges::busy, y -> y.curtain(9));
        isAct("the same curtain", Edges::busy, y -> y.curtain(y.about(7)));
        isNoAct("curtain(10)", Edges::busy, y -> y.curtain(10));
    }

    private void dusk() {
        terms("it gets dark, or light;");
        AviaryLock x = Texts.with("sort a birds 1 slips night;");
        x.dusk();
        due("dark", x.about(8), 1);
        due("odds by night", x.sort(0, 4), 1);
        x.dusk();
        due("light", x.about(8), 0);
        promise(14, "It gets dark, or light: whether it is dark then.");
        due("dusk() of light", x.dusk(), true);
        due("dusk() of dark", x.dusk(), false);
        due("dusk() of dark as told", Texts.with("dark;").dusk(), false);
        due("dusk() of an empty house", new AviaryLock().dusk(), true);
        promise(14, "(An ACT.)");
        isAct("dusk()", Edges::busy, y -> y.dusk() ? 1 : 0);
        isAct("dusk() of an empty house", y -> { }, y -> y.dusk() ? 1 : 0);
    }

    private void week() {
        terms("a WEEK: the week goes up by 1, it is SECOND 0, nobody waits, or is in the lock, nobody passed or came, both DOORS are shut.");
        Scene people = x -> {
            Texts.put(x, "manners 100;lock 5;curtain 3;sort a birds 50 slips 40;party 1 at 0 in;party 4 at 0 out;party 9 at 0 in;party 3 at 2 out;"
                + "party 2 at 1 in;party 1 at 99 in;");
            x.house();
            x.seconds(3);
            x.dusk();
        };
        AviaryLock x = after(people);
        AviaryLock y = after(people);
        due("one waits outside, inside or is in the lock", x.line(0) > 0 && x.line(2) > 0, true);
        due("a door is open", x.door(0) + x.door(1) > 0, true);
        due("week()", x.week(), 1);
        due("the week", x.about(3), 1);
        due("the second", x.about(2), 0);
        due("seats taken", x.about(6), 0);
        for (int i = 0; i < 6; i++) {
            due("party " + i + " did not come", x.party(i, 0), 0);
            due("party " + i + " has no wait", x.party(i, 1), NONE);
        }
        for (int i = 0; i < 3; i++) {
            due("line(" + i + ")", x.line(i), 0);
        }
        due("the outer door", x.door(0), 0);
        due("the inner door", x.door(1), 0);
        // What the words do not name stays.
        for (int what : new int[] {4, 7, 8, 11}) {
            due("about(" + what + ") stays", x.about(what), y.about(what));
        }
        for (int what = 0; what < 4; what++) {
            due("sort(0, " + what + ") stays", x.sort(0, what), y.sort(0, what));
        }
        due("board(0) stays", x.board(0), y.board(0));
        promise(15, "A WEEK: the week;");
        AviaryLock z = new AviaryLock();
        for (int week = 1; week <= 500; week++) {
            due("week()", z.week(), week);
        }
        promise(15, "(An ACT.)");
        isAct("week()", Edges::busy, b -> b.week());
        isAct("week() behind all", Edges::quiet, b -> b.week());
        isAct("week() of an empty house", b -> { }, b -> b.week());
    }

    /** No run of 512 calls comes to week 999; the class keeps to it all the same. */
    private void lastWeek() {
        promise(15, "NONE, doing nothing, if it would be above 999.");
        Scene late = x -> {
            busy(x);
            for (int i = 0; i < 998; i++) {
                x.week();
            }
        };
        due("week() to 999", after(late).week(), 999);
        Scene last = x -> {
            late.play(x);
            x.week();
            x.seconds(5);
            x.dusk();
            x.undo();
        };
        leaves("week() past 999", last, x -> x.week(), NONE);
    }

    private void undo() {
        terms("UNDO takes back the latest ACT that was not,");
        AviaryLock x = Texts.with("party 1 at 0 in;");
        x.curtain(1);
        x.curtain(2);
        x.curtain(3);
        for (int was = 2; was >= 0; was--) {
            due("undo()", x.undo(), true);
            due("the curtain", x.about(7), was);
        }
        x.redo();
        x.curtain(8);
        x.undo();
        due("the latest that was not", x.about(7), 1);
        x.undo();
        due("and the one ahead of it", x.about(7), 0);
        promise(16, "UNDO: true; false if there is none.");
        due("undo() of none left", x.undo(), false);
        leaves("undo() of an empty house", y -> { }, y -> y.undo() ? 1 : 0, 0);
        Scene allUndone = y -> {
            busy(y);
            y.undo();
            y.undo();
            y.undo();
        };
        due("three were left", after(allUndone).about(12), 0);
        leaves("undo() of none left", allUndone, y -> y.undo() ? 1 : 0, 0);
        leaves("undo() behind back()", y -> {
            busy(y);
            y.back(0);
        }, y -> y.undo() ? 1 : 0, 0);
    }

    private void redo() {
        terms("REDO does that again which was taken back last (till another ACT);");
        AviaryLock x = Texts.with("sort a birds 9 slips 9;");
        x.curtain(1);
        x.dusk();
        x.curtain(3);
        x.undo();
        x.undo();
        due("redo()", x.redo(), true);
        due("dark again", x.about(8), 1);
        due("the curtain not yet", x.about(7), 1);
        due("redo()", x.redo(), true);
        due("the curtain", x.about(7), 3);
        Call[] acts = {y -> y.seconds(0), y -> y.net(0), y -> y.food(0, 1), y -> y.curtain(y.about(7)), y -> y.dusk() ? 1 : 0, y -> y.week()};
        String[] names = {"seconds(0)", "net(0)", "food(0, 1)", "the same curtain", "dusk()", "week()"};
        for (int i = 0; i < acts.length; i++) {
            AviaryLock y = Texts.with("sort a birds 9 slips 9;");
            y.curtain(1);
            y.undo();
            acts[i].on(y);
            due("redo() behind " + names[i], y.redo(), false);
        }
        Call[] others = {y -> y.feed(0, 0, 0, 0, 0), y -> y.end(3), y -> y.house(), y -> y.day(0), y -> y.order(2), y -> y.veils(1), y -> y.count(0, 0, 0, 0),
            y -> y.untell(1) ? 1 : 0, y -> y.later(1), y -> y.image(1), y -> y.gone(0), y -> y.curtain(10), y -> y.net(9), y -> y.seconds(301)};
        for (int i = 0; i < others.length; i++) {
            isNoAct("call " + i + " of those that are none", Edges::busy, others[i]);
            AviaryLock y = after(Edges::busy);
            others[i].on(y);
            due("redo() behind call " + i, y.redo(), true);
        }
        promise(17, "REDO: true; false if there is none.");
        leaves("redo() of an empty house", y -> { }, y -> y.redo() ? 1 : 0, 0);
        leaves("redo() behind an act", y -> {
            busy(y);
            y.curtain(4);
        }, y -> y.redo() ? 1 : 0, 0);
        leaves("redo() of none left", y -> {
            busy(y);
            y.redo();
            y.redo();
        }, y -> y.redo() ? 1 : 0, 0);
        leaves("redo() behind back()", y -> {
            busy(y);
            y.back(0);
        }, y -> y.redo() ? 1 : 0, 0);
    }

    private void fortyActs() {
        terms("40 at most are kept, the oldest go.");
        for (int acts : new int[] {39, 40, 41, 82}) {
            AviaryLock x = new AviaryLock();
            for (int i = 0; i < acts; i++) {
                x.seconds(1);
            }
            int kept = Math.min(40, acts);
            due(acts + " acts, to undo", x.about(12), kept);
            for (int i = 1; i <= kept; i++) {
                due("undo " + i + " of " + acts, x.undo(), true);
                due("the second", x.about(2), acts - i);
            }
            due("no more", x.undo(), false);
            due("the oldest are gone", x.about(2), acts - kept);
            due("to redo", x.about(13), kept);
            for (int i = 1; i <= kept; i++) {
                due("redo " + i + " of " + acts, x.redo(), true);
            }
            due("no more to redo", x.redo(), false);
            due("all again", x.about(2), acts);
        }
        AviaryLock y = new AviaryLock();
        for (int i = 0; i < 40; i++) {
            y.seconds(1);
        }
        for (int i = 0; i < 10; i++) {
            y.undo();
        }
        y.seconds(5);
        due("thirty and one", y.about(12), 31);
        for (int i = 0; i < 12; i++) {
            y.seconds(5);
        }
        due("forty again", y.about(12), 40);
        for (int i = 0; i < 40; i++) {
            y.undo();
        }
        due("three of the oldest are gone", y.about(2), 3);
    }

    private void board() {
        terms("BOARD: PARTIES that HELD, the latest first.");
        StringBuilder text = new StringBuilder("manners 100;");
        for (int i = 0; i < 12; i++) {
            text.append("party 1 at ").append(10 * i).append(" in;");
        }
        AviaryLock x = Texts.with(text.toString());
        due("none yet", x.board(0), NONE);
        x.seconds(1);
        due("none while it is in the lock", x.board(0), NONE);
        x.seconds(11);
        due("the latest", x.board(0), 1);
        due("the one ahead of it", x.board(1), 0);
        promise(35, "BOARD: the i-th; NONE if there is none such.");
        due("board(2) of two", x.board(2), NONE);
        for (int i : new int[] {-1, 20, LEAST, MOST}) {
            due("board(" + i + ")", x.board(i), NONE);
        }
        promise(35, "(The latest 20.)");
        x.seconds(108);
        x.week();
        for (int held = 12; held <= 24; held++) {
            int most = Math.min(20, held);
            due("board(0) of " + held, x.board(0), (held - 1) % 12);
            due("the last of " + held, x.board(most - 1), (held - most) % 12);
            due("one more of " + held, x.board(most), NONE);
            x.seconds(10);
        }
        x.undo();
        x.undo();
        x.undo();
        // 22 had held then; the 20th of these is the third of the first week.
        due("board(0) behind undo()", x.board(0), 9);
        due("board(19) behind undo()", x.board(19), 2);
    }

    private void image() {
        promise(43, "Birds, PARTIES, DOORS, lines, the curtain, dark, SECOND, week, SEED, GAPS, BOARD are kept in a BOX 0 .. 2: the SECOND;");
        for (int box = 0; box < 3; box++) {
            AviaryLock x = after(Edges::busy);
            AviaryLock y = after(Edges::busy);
            due("image(" + box + ")", x.image(box), x.about(2));
            x.seconds(9);
            x.net(0);
            x.dusk();
            x.curtain(7);
            x.food(0, 9);
            x.week();
            x.seconds(4);
            int second = y.about(2);
            due("back(" + box + ")", x.back(box), second);
            same("what box " + box + " kept", Looks.kept(x), Looks.kept(y));
        }
        isNoAct("image(0)", Edges::busy, x -> x.image(0));
        AviaryLock z = after(Edges::quiet);
        z.image(1);
        z.week();
        z.image(1);
        z.seconds(8);
        due("a box that was full keeps the newer", z.back(1), 0);
        due("its week", z.about(3), 1);
        promise(43, "NONE if there is none such.");
        for (int box : new int[] {-1, 3, LEAST, MOST}) {
            leaves("image(" + box + ")", Edges::busy, x -> x.image(box), NONE);
        }
    }

    private void back() {
        promise(44, "All is as it was kept (no ACTS are kept then): the SECOND;");
        AviaryLock x = after(Edges::busy);
        x.image(1);
        AviaryLock y = after(Edges::busy);
        x.seconds(30);
        due("back(1)", x.back(1), y.about(2));
        same("as it was kept", Looks.kept(x), Looks.kept(y));
        due("to undo", x.about(12), 0);
        due("to redo", x.about(13), 0);
        due("undo()", x.undo(), false);
        due("redo()", x.redo(), false);
        // The seconds go by from there as they would have.
        x.seconds(25);
        y.seconds(25);
        same("and goes on", Looks.kept(x), Looks.kept(y));
        due("back(1) once more", x.back(1), after(Edges::busy).about(2));
        due("what lies there stays", x.about(18), 2);
        due("counts stay", x.about(14), 2);
        due("the time stays", x.about(15), 4);
        due("the tape stays", x.about(16), 12);
        promise(44, "NONE, doing nothing, if nothing was.");
        leaves("back(1), an empty box", Edges::busy, z -> z.back(1), NONE);
        for (int box : new int[] {-1, 3, LEAST, MOST}) {
            leaves("back(" + box + ")", Edges::busy, z -> z.back(box), NONE);
        }
        for (int box = 0; box < 3; box++) {
            int empty = box;
            leaves("back(" + box + ") of a new object", z -> { }, z -> z.back(empty), NONE);
            leaves("back(" + box + ") behind another house()", z -> {
                busy(z);
                z.image(empty);
                z.end(0);
                z.house();
            }, z -> z.back(empty), NONE);
        }
    }

    private void about() {
        promise(45, "What 0: PARTIES, 1: SORTS, 2: the SECOND, 3: the week, 4: the SEED, 5: SEATS of the lock, 6: those that are taken, "
            + "7: the curtain, 8: 1 if it is dark, else 0, 9: 1 with a latch, else 0, 10: manners, 11: GAPS, 12: ACTS that can be undone, "
            + "13: redone, 14: COUNTS, 15: the TIME, 16: bytes on the TAPE, 17: units, 18: numbers that lie there.");
        AviaryLock x = Texts.with("lock 8;manners 100;curtain 2;dark;draw 12;sort a birds 4 slips 1+(2);party 3 at 0 in pram;party 3 at 0 out;");
        x.week();
        x.seconds(1);
        x.curtain(3);
        x.undo();
        x.count(0, 0, 1, 1);
        x.later(9);
        x.veils(3);
        Texts.put(x, "latch; dark; ");
        // Three go in with a pram and three go out: 8 seats; the latter hold the inner door (a draw), the sort takes two.
        int seed = 12;
        for (int draws = 0; draws < 3; draws++) {
            seed = (seed * 137 + 71) % 1000;
        }
        int[] want = {2, 1, 1, 1, seed, 8, 8, 2, 1, 0, 100, 1, 2, 1, 1, 9, 13, 3, 3};
        for (int what = 0; what < want.length; what++) {
            due("about(" + what + ")", x.about(what), want[what]);
        }
        due("about(9) with a latch", Texts.with("latch;").about(9), 1);
        promise(45, "NONE for another what.");
        for (int what : new int[] {-1, 19, LEAST, MOST}) {
            leaves("about(" + what + ")", Edges::busy, y -> y.about(what), NONE);
        }
    }
}
