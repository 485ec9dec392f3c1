/** Promises 6 to 17, 35, 43 to 45: what is so now, acts, undo and redo, the board, boxes, and what is told about all. */
public final class ActPromisesTest {
    private static final Check CHECK = new Check("ActPromisesTest");
    // One goes in by springs of 2: enters in second 0, waits for the outer door in second 1, is through in second 2.
    private static final String ONE_IN = "party 2 at 0 in pram;";
    private static final int[] WRONG = {-1, 99, Integer.MIN_VALUE, Integer.MAX_VALUE};

    private ActPromisesTest() {
    }

    public static void main(String[] args) {
        partiesAndDoors();
        sorts();
        lines();
        doorsRule();
        latchAndManners();
        seatsAreAskedFirst();
        seconds();
        net();
        food();
        slipped();
        curtainAndDusk();
        week();
        undoAndRedo();
        fortyActs();
        board();
        fullBoard();
        gapNow();
        boxes();
        about();
        refusalsDoNothing();
        CHECK.end();
    }

    private static void partiesAndDoors() {
        AviaryLock x = Texts.with(ONE_IN + "party 3 at 5 out;");
        int[] want = {0, -1, 2, 4, 0, 1};
        int[] other = {0, -1, 3, 3, 5, 0};
        for (int i = 0; i < 6; i++) {
            CHECK.due("party 0 " + i, x.party(0, i), want[i]);
            CHECK.due("party 1 " + i, x.party(1, i), other[i]);
        }
        for (int wrong : WRONG) {
            CHECK.due("party " + wrong, x.party(wrong, 0), -1);
            CHECK.due("party what " + wrong, x.party(0, wrong), -1);
            CHECK.due("door " + wrong, x.door(wrong), -1);
            CHECK.due("line " + wrong, x.line(wrong), -1);
        }
        CHECK.due("party 2", x.party(2, 0), -1);
        CHECK.due("party what 6", x.party(0, 6), -1);
        CHECK.due("door 2", x.door(2), -1);
        CHECK.due("line 3", x.line(3), -1);
        x.seconds(1);
        CHECK.due("entered", x.party(0, 0), 2);
        CHECK.due("wait", x.party(0, 1), 0);
        CHECK.due("outer open", x.door(0), 2);
        CHECK.due("inner shut", x.door(1), 0);
        CHECK.due("seats taken", x.about(6), 4);
        x.seconds(1);
        CHECK.due("still in the lock", x.party(0, 0), 2);
        CHECK.due("outer open 1", x.door(0), 1);
        x.seconds(1);
        CHECK.due("through", x.party(0, 0), 3);
        CHECK.due("outer shut", x.door(0), 0);
        CHECK.due("inner open", x.door(1), 2);
        CHECK.due("wait is kept", x.party(0, 1), 0);
        x.seconds(3);
        CHECK.due("the other enters", x.party(1, 0), 2);
        CHECK.due("inner again", x.door(1), 2);
    }

    private static void sorts() {
        AviaryLock x = Texts.with("sort a birds 10 slips 50;sort b birds 5 slips people*10+veil+night;party 2 at 0 out;party 1 at 9 in;curtain 3;dark;");
        int[] want = {10, 0, 0, 0, 50};
        int[] other = {5, 0, 0, 0, 4};
        for (int i = 0; i < 5; i++) {
            CHECK.due("sort 0 " + i, x.sort(0, i), want[i]);
            CHECK.due("sort 1 " + i, x.sort(1, i), other[i]);
        }
        for (int wrong : WRONG) {
            CHECK.due("sort " + wrong, x.sort(wrong, 0), -1);
            CHECK.due("sort what " + wrong, x.sort(0, wrong), -1);
        }
        CHECK.due("sort 2", x.sort(2, 0), -1);
        CHECK.due("sort what 5", x.sort(0, 5), -1);
        x.seconds(1);
        // Draws 71 and 98: (500 + 71) / 100, (5 * 24 + 98) / 100.
        CHECK.due("a within", x.sort(0, 0), 5);
        CHECK.due("a between", x.sort(0, 1), 5);
        CHECK.due("b odds", x.sort(1, 4), 24);
        CHECK.due("b within", x.sort(1, 0), 3);
        CHECK.due("b between", x.sort(1, 1), 2);
        CHECK.due("seed", x.about(4), 798);
    }

    private static void lines() {
        AviaryLock x = Texts.with("lock 1;party 1 at 0 in;party 1 at 0 in;party 1 at 0 out;party 1 at 1 in;");
        CHECK.due("nobody outside", x.line(0), 0);
        x.seconds(1);
        CHECK.due("one more outside", x.line(0), 1);
        CHECK.due("inside", x.line(1), 1);
        CHECK.due("in the lock", x.line(2), 1);
        CHECK.due("the first by number entered", x.party(0, 0), 2);
        CHECK.due("the second waits", x.party(1, 0), 1);
        CHECK.due("it did not enter", x.party(1, 1), -1);
        x.seconds(1);
        CHECK.due("two outside", x.line(0), 2);
        x.seconds(1);
        // The inner door was just passed, so that the one inside can enter by it and those outside cannot.
        CHECK.due("one went through", x.party(0, 0), 3);
        CHECK.due("the one inside entered", x.party(2, 0), 2);
        CHECK.due("its wait", x.party(2, 1), 2);
        CHECK.due("none inside", x.line(1), 0);
        CHECK.due("still two outside", x.line(0), 2);
    }

    private static void doorsRule() {
        AviaryLock x = Texts.with("lock 9;spring 3 1;party 1 at 0 in;party 1 at 2 in;party 1 at 3 in;latch;");
        x.seconds(2);
        CHECK.due("outer goes down", x.door(0), 2);
        x.seconds(1);
        CHECK.due("one more by the open door", x.party(1, 1), 0);
        CHECK.due("it is open anew", x.door(0), 3);
        x.seconds(1);
        CHECK.due("and one more", x.line(2), 3);
        x.seconds(2);
        CHECK.due("nobody passes yet", x.line(2), 3);
        x.seconds(1);
        CHECK.due("the first by when it entered", x.party(0, 0), 3);
        CHECK.due("the second not yet", x.party(1, 0), 2);
        CHECK.due("inner for one second", x.door(1), 1);
        x.seconds(2);
        CHECK.due("one each second", x.party(2, 0), 3);
        CHECK.due("a latch needs no draw", x.about(4), 0);
    }

    private static void latchAndManners() {
        // The draw in second 1 is 71.
        int[] manners = {0, 71, 72, 100};
        for (int m : manners) {
            AviaryLock x = Texts.with("manners " + m + ";" + ONE_IN);
            x.seconds(2);
            boolean holds = m > 71;
            CHECK.due("holds by manners " + m, x.party(0, 0), holds ? 3 : 2);
            CHECK.due("gaps by manners " + m, x.about(11), holds ? 1 : 0);
            CHECK.due("board by manners " + m, x.board(0), holds ? 0 : -1);
            CHECK.due("seed by manners " + m, x.about(4), 71);
            AviaryLock y = Texts.with("latch;manners " + m + ";" + ONE_IN);
            y.seconds(2);
            CHECK.due("a latch by manners " + m, y.party(0, 0), 2);
            CHECK.due("no draw by a latch " + m, y.about(4), 0);
        }
    }

    private static void seatsAreAskedFirst() {
        AviaryLock x = Texts.with("lock 3;manners 100;spring 9 9;party 2 at 0 in;party 2 at 0 out;");
        x.seconds(1);
        CHECK.due("no seats, no draw", x.about(4), 0);
        CHECK.due("the other waits", x.party(1, 0), 1);
        x.seconds(1);
        CHECK.due("a draw for the first", x.about(4), 71);
        CHECK.due("the first is through", x.party(0, 0), 3);
        CHECK.due("by the open inner door", x.party(1, 0), 2);
    }

    private static void seconds() {
        AviaryLock x = Texts.with(ONE_IN);
        for (int wrong : new int[] {-1, 301, Integer.MIN_VALUE, Integer.MAX_VALUE}) {
            CHECK.due("seconds " + wrong, x.seconds(wrong), -1);
        }
        CHECK.due("no act", x.about(12), 0);
        CHECK.due("none", x.seconds(0), 0);
        CHECK.due("an act all the same", x.about(12), 1);
        for (int i = 1; i <= 6; i++) {
            CHECK.due("300 more", x.seconds(300), 300 * i);
        }
        CHECK.due("past 2000", x.seconds(201), -1);
        CHECK.due("to 2000", x.seconds(200), 2000);
        CHECK.due("past 2000 by one", x.seconds(1), -1);
        CHECK.due("none at 2000", x.seconds(0), 2000);
        CHECK.due("acts", x.about(12), 9);
    }

    private static void net() {
        AviaryLock x = Texts.with("sort a birds 10 slips 50;party 1 at 0 out;spring 1 1;");
        CHECK.due("a net for none", x.net(0), 0);
        CHECK.due("an act", x.about(12), 1);
        CHECK.due("no such sort", x.net(1), -1);
        CHECK.due("no sort -1", x.net(-1), -1);
        x.seconds(1);
        CHECK.due("a door is open", x.net(0), -1);
        CHECK.due("nothing done", x.sort(0, 1), 5);
        CHECK.due("acts", x.about(12), 2);
        // Draws 71, 98: 5 go between, (5 * 50 + 98) / 100 = 3 go outside.
        x.seconds(1);
        CHECK.due("the outer door is open", x.net(0), -1);
        x.seconds(1);
        CHECK.due("netted", x.net(0), 2);
        CHECK.due("within", x.sort(0, 0), 7);
        CHECK.due("between", x.sort(0, 1), 0);
        CHECK.due("outside", x.sort(0, 2), 3);
    }

    private static void food() {
        AviaryLock x = Texts.with("sort a birds 10 slips 100;party 1 at 0 out;spring 1 1;");
        CHECK.due("food for none", x.food(0, 9), 0);
        CHECK.due("a draw", x.about(4), 71);
        for (int wrong : new int[] {0, 10, -1, Integer.MIN_VALUE, Integer.MAX_VALUE}) {
            CHECK.due("seeds " + wrong, x.food(0, wrong), -1);
        }
        CHECK.due("no such sort", x.food(1, 1), -1);
        CHECK.due("no sort -1", x.food(-1, 1), -1);
        CHECK.due("no draw", x.about(4), 71);
        x.seconds(2);
        CHECK.due("all outside", x.sort(0, 2), 10);
        CHECK.due("slipped", x.sort(0, 3), 10);
        CHECK.due("seed", x.about(4), 397);
        // The draws are 60, 91, 38: (10 * 10 + 60) / 100, (9 * 20 + 91) / 100, (7 * 90 + 38) / 100.
        CHECK.due("one seed", x.food(0, 1), 1);
        CHECK.due("two seeds", x.food(0, 2), 2);
        CHECK.due("nine seeds", x.food(0, 9), 6);
        CHECK.due("outside", x.sort(0, 2), 1);
        CHECK.due("within", x.sort(0, 0), 9);
        CHECK.due("slipped stays", x.sort(0, 3), 10);
        x.undo();
        CHECK.due("food undone", x.sort(0, 2), 7);
        AviaryLock y = Texts.with("sort a birds 200 slips 100;party 1 at 0 out;spring 1 1;");
        y.seconds(2);
        // The draws: 71, 98 in the two seconds, then 97: (200 * 70 + 97) / 100.
        CHECK.due("seven seeds for many", y.food(0, 7), 140);
    }

    private static void slipped() {
        AviaryLock x = Texts.with("sort z birds 3 slips 0;sort a birds 10 slips 50+slipped;party 1 at 0 out;spring 1 1;");
        // Draws 71 and 98 for the inner door, 97 and 60 for the outer one: 5 go between, (5 * 50 + 60) / 100 = 3 outside.
        x.seconds(2);
        CHECK.due("outside", x.sort(1, 2), 3);
        CHECK.due("odds by what slipped", x.sort(1, 4), 53);
        CHECK.due("none of the other slipped", x.sort(0, 3), 0);
        x.food(1, 9);
        CHECK.due("what slipped has slipped", x.sort(1, 4), 53);
    }

    private static void curtainAndDusk() {
        AviaryLock x = Texts.with("curtain 4;sort a birds 1 slips veil*10+night;");
        CHECK.due("the curtain was", x.curtain(9), 4);
        CHECK.due("odds by it", x.sort(0, 4), 90);
        CHECK.due("the same again", x.curtain(9), 9);
        for (int wrong : new int[] {-1, 10, Integer.MIN_VALUE, Integer.MAX_VALUE}) {
            CHECK.due("curtain " + wrong, x.curtain(wrong), -1);
        }
        CHECK.due("acts", x.about(12), 2);
        CHECK.due("to none", x.curtain(0), 9);
        CHECK.due("it gets dark", x.dusk(), true);
        CHECK.due("odds in the dark", x.sort(0, 4), 1);
        CHECK.due("it gets light", x.dusk(), false);
        CHECK.due("odds in the light", x.sort(0, 4), 0);
        CHECK.due("dark as told", Texts.with("dark;").dusk(), false);
    }

    private static void week() {
        AviaryLock x = Texts.with("manners 100;curtain 2;sort a birds 10 slips 50+week;party 1 at 0 in;party 1 at 1 out;party 9 at 0 in;");
        x.seconds(3);
        int seed = x.about(4);
        int gaps = x.about(11);
        int[] birds = {x.sort(0, 0), x.sort(0, 1), x.sort(0, 2), x.sort(0, 3)};
        CHECK.due("something happened", gaps > 0 && x.board(0) >= 0 && birds[1] > 0, true);
        x.dusk();
        CHECK.due("the week", x.week(), 1);
        int[] want = {3, 1, 0, 1, seed, 4, 0, 2, 1, 0, 100, gaps, 3, 0};
        for (int i = 0; i < want.length; i++) {
            CHECK.due("week about " + i, x.about(i), want[i]);
        }
        for (int i = 0; i < 3; i++) {
            CHECK.due("nobody came " + i, x.party(i, 0), 0);
            CHECK.due("nobody waited " + i, x.party(i, 1), -1);
            CHECK.due("no line " + i, x.line(i), 0);
        }
        for (int i = 0; i < 4; i++) {
            CHECK.due("birds stay " + i, x.sort(0, i), birds[i]);
        }
        CHECK.due("odds by the week", x.sort(0, 4), 51);
        CHECK.due("doors are shut", x.door(0) + x.door(1), 0);
        CHECK.due("the board stays", x.board(0) >= 0, true);
        CHECK.due("they come again", x.seconds(1), 1);
        CHECK.due("the first entered", x.party(0, 0), 2);
    }

    private static void undoAndRedo() {
        AviaryLock x = Texts.with("manners 100;sort a birds 10 slips 50;party 1 at 0 in;party 1 at 1 out;");
        CHECK.due("none to undo", x.undo(), false);
        CHECK.due("none to redo", x.redo(), false);
        x.seconds(2);
        String two = look(x);
        x.curtain(5);
        x.dusk();
        x.seconds(4);
        String late = look(x);
        CHECK.due("undo seconds", x.undo(), true);
        CHECK.due("undo dusk", x.undo(), true);
        CHECK.due("light again", x.about(8), 0);
        CHECK.due("undo curtain", x.undo(), true);
        CHECK.due("as it was", look(x).equals(two), true);
        CHECK.due("one more to undo", x.about(12), 1);
        CHECK.due("three to redo", x.about(13), 3);
        CHECK.due("a refused act", x.curtain(10), -1);
        CHECK.due("keeps them", x.about(13), 3);
        x.later(3);
        x.image(0);
        CHECK.due("redo", x.redo(), true);
        CHECK.due("redo", x.redo(), true);
        CHECK.due("redo", x.redo(), true);
        CHECK.due("no more", x.redo(), false);
        CHECK.due("as it had been", look(x).equals(late), true);
        CHECK.due("the time stays", x.about(15), 3);
        x.undo();
        x.undo();
        CHECK.due("another act", x.week(), 1);
        CHECK.due("nothing to redo", x.redo(), false);
        CHECK.due("acts", x.about(12), 3);
        x.undo();
        x.undo();
        x.undo();
        CHECK.due("all undone", x.undo(), false);
        CHECK.due("at first", x.about(2), 0);
        CHECK.due("birds at first", x.sort(0, 0), 10);
    }

    private static void fortyActs() {
        AviaryLock x = new AviaryLock();
        for (int i = 0; i < 45; i++) {
            x.seconds(1);
        }
        CHECK.due("forty are kept", x.about(12), 40);
        for (int i = 0; i < 40; i++) {
            CHECK.due("undo " + i, x.undo(), true);
        }
        CHECK.due("no more", x.undo(), false);
        CHECK.due("the oldest went", x.about(2), 5);
        CHECK.due("forty to redo", x.about(13), 40);
        for (int i = 0; i < 7; i++) {
            x.redo();
        }
        CHECK.due("seven again", x.about(2), 12);
        for (int i = 0; i < 40; i++) {
            x.seconds(2);
        }
        CHECK.due("full again", x.about(12), 40);
        for (int i = 0; i < 41; i++) {
            x.undo();
        }
        CHECK.due("back to the seventh", x.about(2), 12);
        for (int i = 0; i < 41; i++) {
            x.redo();
        }
        CHECK.due("on to the last", x.about(2), 92);
    }

    private static void board() {
        AviaryLock x = Texts.with("manners 100;lock 20;party 1 at 0 in;party 1 at 0 out;party 1 at 9 in;party 1 at 20 in;");
        CHECK.due("none yet", x.board(0), -1);
        // The second enters by the inner door while the outer one is open, so it holds at once.
        x.seconds(1);
        CHECK.due("one held", x.board(0), 1);
        x.seconds(10);
        CHECK.due("the latest first", x.board(0), 2);
        CHECK.due("then the other", x.board(1), 1);
        CHECK.due("no third", x.board(2), -1);
        CHECK.due("none below", x.board(-1), -1);
        CHECK.due("none at the least", x.board(Integer.MIN_VALUE), -1);
        for (int i = 0; i < 12; i++) {
            x.week();
            x.seconds(30);
        }
        CHECK.due("the latest", x.board(0), 3);
        CHECK.due("the 20th", x.board(19) >= 0, true);
        CHECK.due("no more than 20", x.board(20), -1);
    }

    private static void fullBoard() {
        // Each goes in alone, ten seconds behind the one ahead, and holds the inner door in the second behind its own.
        StringBuilder text = new StringBuilder("manners 100;");
        for (int i = 0; i < 12; i++) {
            text.append("party 1 at ").append(10 * i).append(" in;");
        }
        AviaryLock x = Texts.with(text.toString());
        x.seconds(120);
        x.week();
        for (int held = 12; held <= 24; held++) {
            for (int i = 0; i < 22; i++) {
                boolean isThere = i < Math.min(20, held);
                CHECK.due(held + " held, " + i, x.board(i), isThere ? (held - 1 - i) % 12 : -1);
            }
            x.seconds(10);
        }
    }

    private static void gapNow() {
        AviaryLock x = Texts.with("manners 100;sort a birds 10 slips gap*7;party 1 at 0 in;");
        CHECK.due("no gap", x.sort(0, 4), 0);
        x.seconds(1);
        CHECK.due("one door", x.sort(0, 4), 0);
        x.seconds(1);
        CHECK.due("both doors", x.sort(0, 4), 7);
        x.seconds(1);
        CHECK.due("the inner door alone", x.sort(0, 4), 0);
    }

    private static void boxes() {
        AviaryLock x = Texts.with("manners 100;sort a birds 10 slips 50;party 1 at 0 in;party 1 at 1 out;");
        for (int box : new int[] {-1, 3, Integer.MIN_VALUE, Integer.MAX_VALUE}) {
            CHECK.due("no box to keep " + box, x.image(box), -1);
            CHECK.due("no box to go back " + box, x.back(box), -1);
        }
        for (int box = 0; box < 3; box++) {
            CHECK.due("an empty box", x.back(box), -1);
        }
        x.seconds(2);
        x.curtain(3);
        x.dusk();
        String kept = look(x);
        CHECK.due("kept", x.image(2), 2);
        CHECK.due("acts stay", x.about(12), 3);
        CHECK.due("another box is empty", x.back(1), -1);
        x.seconds(3);
        x.week();
        x.food(0, 9);
        x.later(2);
        x.count(0, 1, 5, 1);
        x.veils(2);
        x.undo();
        CHECK.due("back", x.back(2), 2);
        CHECK.due("as it was kept", look(x).equals(kept), true);
        CHECK.due("no acts", x.about(12) + x.about(13), 0);
        CHECK.due("counts stay", x.about(14), 1);
        CHECK.due("the time stays", x.about(15), 2);
        CHECK.due("what lies there stays", x.about(18), 2);
        x.seconds(1);
        CHECK.due("back once more", x.back(2), 2);
        CHECK.due("as it was kept still", look(x).equals(kept), true);
        x.seconds(5);
        CHECK.due("kept anew", x.image(2), 7);
        x.week();
        CHECK.due("back to the newer", x.back(2), 7);
    }

    private static void about() {
        AviaryLock x = Texts.with("lock 8;latch;manners 33;curtain 2;dark;draw 12;sort a birds 4 slips 1+(2);party 3 at 0 in pram;");
        x.feed(0, 0, 0, 0, 0);
        x.end(13);
        x.seconds(1);
        x.curtain(2);
        x.undo();
        x.count(0, 0, 1, 1);
        x.later(9);
        x.veils(3);
        int[] want = {1, 1, 1, 0, (12 * 137 + 71) % 1000, 8, 5, 2, 1, 1, 33, 0, 1, 1, 1, 9, 13, 3, 3};
        for (int i = 0; i < want.length; i++) {
            CHECK.due("about " + i, x.about(i), want[i]);
        }
        for (int wrong : new int[] {-1, 19, Integer.MIN_VALUE, Integer.MAX_VALUE}) {
            CHECK.due("about " + wrong, x.about(wrong), -1);
        }
    }

    private static void refusalsDoNothing() {
        AviaryLock x = Texts.with("manners 100;sort a birds 10 slips 50;party 1 at 0 in;party 1 at 1 out;");
        x.seconds(2);
        x.seconds(1);
        x.undo();
        String before = look(x);
        for (int wrong : WRONG) {
            x.feed(wrong, wrong, wrong, wrong, wrong);
            x.end(0);
            x.sort(wrong, wrong);
            x.seconds(wrong == 99 ? 301 : wrong);
            x.net(wrong);
            x.food(wrong, wrong);
            x.curtain(wrong);
            x.back(wrong);
            x.image(wrong);
            x.count(wrong, wrong, wrong, wrong);
            x.untell(wrong);
            x.later(wrong == 99 ? 1001 : wrong);
        }
        CHECK.due("nothing done", look(x).equals(before), true);
        CHECK.due("still to redo", x.about(13), 1);
    }

    /** All that an act changes, in one text. */
    private static String look(AviaryLock x) {
        StringBuilder all = new StringBuilder();
        for (int i : new int[] {2, 3, 4, 6, 7, 8, 11}) {
            all.append(x.about(i)).append(' ');
        }
        for (int i = 0; i < 4; i++) {
            all.append(x.sort(0, i)).append(' ').append(x.door(i % 2)).append(' ').append(x.line(i)).append(' ');
        }
        for (int p = 0; p < x.about(0); p++) {
            all.append(x.party(p, 0)).append(' ').append(x.party(p, 1)).append(' ');
        }
        for (int i = 0; i < 20; i++) {
            all.append(x.board(i)).append(' ');
        }
        return all.toString();
    }
}
