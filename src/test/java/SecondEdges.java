/** The edges of a second: seats, odds, who comes, who passes, what slips, what a draw is. */
final class SecondEdges extends Edges {
    SecondEdges(Check check, Doc doc) {
        super(check, doc);
    }

    @Override
    void run() {
        seats();
        birds();
        facts();
        slipped();
        odds();
        wrapping();
        byNothing();
        truth();
        coming();
        openDoors();
        inGoesFirst();
        outGoesNext();
        enteringOutside();
        enteringInside();
        passing();
        drawing();
        springing();
        slippingIn();
        slippingOut();
        drawsOfDoors();
        gaps();
        waits();
    }

    private void seats() {
        terms("A PARTY needs as many SEATS as it has heads, 2 more with a pram.");
        AviaryLock x = Texts.with("party 1 at 0 in;party 9 at 0 in;party 1 at 0 in pram;party 9 at 0 out pram;");
        int[] want = {1, 9, 3, 11};
        for (int i = 0; i < 4; i++) {
            due("seats of party " + i, x.party(i, 3), want[i]);
        }
        for (int lock = 1; lock <= 12; lock++) {
            AviaryLock y = Texts.with("lock " + lock + ";party 9 at 0 in pram;");
            y.seconds(1);
            due("nine with a pram by a lock of " + lock, y.party(0, 0), lock >= 11 ? 2 : 1);
            due("seats taken then", y.about(6), lock >= 11 ? 11 : 0);
        }
    }

    private void birds() {
        terms("Birds are WITHIN (all at first), BETWEEN, or OUTSIDE.");
        for (int all : new int[] {0, 1, 240}) {
            AviaryLock x = Texts.with("sort a birds " + all + " slips 50;party 1 at 0 out;party 1 at 9 in;");
            due(all + " within", x.sort(0, 0), all);
            due("none between", x.sort(0, 1), 0);
            due("none outside", x.sort(0, 2), 0);
            for (int i = 0; i < 20; i++) {
                x.seconds(1);
                due(all + " in all places", x.sort(0, 0) + x.sort(0, 1) + x.sort(0, 2), all);
            }
        }
    }

    private AviaryLock told(String formula, String lines) {
        return Texts.with(lines + "sort a birds 0 slips " + formula + ";");
    }

    private void facts() {
        terms("ODDS of a SORT: what comes of its formula by");
        AviaryLock x = told("week*40+veil*4+night", "curtain 3;");
        due("odds at first", x.sort(0, 4), 12);
        x.week();
        due("odds in another week", x.sort(0, 4), 52);
        x.dusk();
        due("odds by night", x.sort(0, 4), 53);
        x.curtain(9);
        due("odds by another curtain", x.sort(0, 4), 77);
        terms("gap (1 if both DOORS are open, else 0)");
        // Enters in second 0, holds the inner door in second 1, the outer one is shut in second 2, the inner one in second 3.
        x = told("gap*7", "manners 100;party 1 at 0 in;");
        int[] gap = {0, 0, 7, 0, 0};
        for (int i = 0; i < gap.length; i++) {
            due("gap ahead of second " + i, x.sort(0, 4), gap[i]);
            x.seconds(1);
        }
        terms("people (heads in the lock)");
        x = told("people", "lock 20;party 9 at 0 in pram;party 1 at 1 in;");
        due("nobody", x.sort(0, 4), 0);
        x.seconds(1);
        due("nine with a pram", x.sort(0, 4), 9);
        x.seconds(1);
        due("ten", x.sort(0, 4), 10);
        x.seconds(20);
        due("nobody any more", x.sort(0, 4), 0);
        terms("night (1 if it is dark, else 0)");
        due("light", told("night*7", "").sort(0, 4), 0);
        due("dark", told("night*7", "dark;").sort(0, 4), 7);
        terms("veil (the curtain)");
        due("none", told("veil", "").sort(0, 4), 0);
        due("the most", told("veil", "curtain 9;").sort(0, 4), 9);
        terms("the week (0 at first)");
        x = told("week", "");
        for (int week = 0; week <= 101; week++) {
            due("week " + week, x.sort(0, 4), Math.min(100, week));
            x.week();
        }
    }

    private void slipped() {
        terms("slipped (how many of the SORT ever went OUTSIDE)");
        AviaryLock x = Texts.with("spring 1 1;sort b birds 3 slips slipped;sort a birds 10 slips 100;party 1 at 0 out;");
        due("none at first", x.sort(1, 3), 0);
        x.seconds(2);
        due("all", x.sort(1, 3), 10);
        due("none of the other", x.sort(0, 3), 0);
        due("odds by none", x.sort(0, 4), 0);
        int fed = x.food(1, 9);
        due("food brings some", fed > 0, true);
        due("slipped all the same", x.sort(1, 3), 10);
        x.week();
        due("in another week", x.sort(1, 3), 10);
        x.seconds(2);
        due("those once more", x.sort(1, 3), 10 + fed);
        due("outside", x.sort(1, 2), 10);
        AviaryLock y = Texts.with("spring 1 1;sort a birds 10 slips 100-slipped*3;party 1 at 0 out;");
        y.seconds(2);
        due("odds by those that slipped", y.sort(0, 4), 70);
        // Draws 71 and 98 leave 50 within, 25 between and 25 outside; then by odds of 75 draws of 97 and 60:
        // (50 * 75 + 97) / 100 = 38 go between, (63 * 75 + 60) / 100 = 47 outside.
        AviaryLock z = Texts.with("spring 1 1;sort a birds 100 slips 50+slipped;party 1 at 0 out;party 1 at 9 out;");
        z.seconds(20);
        due("within by those that slipped", z.sort(0, 0), 12);
        due("between by those that slipped", z.sort(0, 1), 16);
        due("outside by those that slipped", z.sort(0, 2), 72);
    }

    private void odds() {
        terms("0 at least, 100 at most");
        String[] formulas = {"0-1", "0-9999*9999", "0", "1", "99", "100", "101", "9999", "9999*9999"};
        int[] want = {0, 0, 0, 1, 99, 100, 100, 100, 100};
        for (int i = 0; i < want.length; i++) {
            due("odds of " + formulas[i], told(formulas[i], "").sort(0, 4), want[i]);
        }
    }

    /** 2147483648 is 8192 * 8192 * 32, so that it wraps to the least int. */
    private static final String LEAST_INT = "8192*8192*32";
    private static final String MOST_INT = "(8192*8192*32-1)";

    private void wrapping() {
        terms("(ints, wrapping;");
        String[] formulas = {LEAST_INT + "<0", MOST_INT + ">0", MOST_INT + "+1<0", LEAST_INT + "-1>0", "(0-" + LEAST_INT + ")<0",
            "(0-1)*(" + LEAST_INT + ")<0", LEAST_INT + "/(0-1)=" + LEAST_INT, LEAST_INT + "%(0-1)=0", MOST_INT + "*2=0-2",
            // 9999 * 9999 * 50 is 4999000050, which wraps to 704032754.
            "9999*9999*50%1000=754", "8192*8192*64=0", MOST_INT + "*" + MOST_INT + "=1"};
        for (String formula : formulas) {
            due("odds of " + formula, told(formula, "").sort(0, 4), 1);
        }
        due("odds of the most", told(MOST_INT, "").sort(0, 4), 100);
        due("odds of the least", told(LEAST_INT, "").sort(0, 4), 0);
    }

    private void byNothing() {
        terms("/ cut, % its rest, both by 0: 0;");
        String[] formulas = {"7/2", "8/2", "1/2", "10+(0-7)/2", "10+7/(0-2)", "10+(0-1)/2", "7%2", "8%2", "10+(0-7)%2", "10+7%(0-2)",
            "10+(0-8)%3", "50-7/0", "50-7%0", "50-0/0", "50-0%0", "50-7/(3-3)", "50-7%gap", "0/7", "9999%100"};
        int[] want = {3, 4, 0, 7, 7, 10, 1, 0, 9, 11, 8, 50, 50, 50, 50, 50, 50, 0, 99};
        for (int i = 0; i < want.length; i++) {
            due("odds of " + formulas[i], told(formulas[i], "").sort(0, 4), want[i]);
        }
    }

    private void truth() {
        terms("relations, and, or, not are 1 or 0, of what is not 0).");
        String[] formulas = {"3<4", "4<4", "5<4", "3>4", "4>4", "5>4", "3=4", "4=4", "0-1<0", "0>0-1", "1 and 1", "2 and 4", "0-1 and 5", "0 and 5",
            "5 and 0", "0 and 0", "0 or 0", "0 or 5", "5 or 0", "2 or 4", "0-2 or 0", "not 0", "not 1", "not 9", "not 0-1", "9*(2<3)", "9*(7 and 8)",
            "5+(4<4)", "5+(4>4)", "5+(3=4)", "5+(0 or 0)", "5+(0 and 1)", "5+(not 1)"};
        int[] want = {1, 0, 0, 0, 0, 1, 0, 1, 1, 1, 1, 1, 1, 0, 0, 0, 0, 1, 1, 1, 1, 1, 0, 0, 0, 9, 9, 5, 5, 5, 5, 5, 5};
        for (int i = 0; i < want.length; i++) {
            due("odds of " + formulas[i], told(formulas[i], "").sort(0, 4), want[i]);
        }
    }

    private void coming() {
        terms("In a SECOND (from 0 on):");
        AviaryLock x = Texts.with("party 5 at 0 in;party 5 at 1 in;party 5 at 299 in;");
        due("nobody came", x.line(0), 0);
        x.seconds(0);
        due("nobody in no second", x.line(0), 0);
        due("second 0 went by", x.seconds(1), 1);
        due("who comes in second 0", x.party(0, 0), 1);
        due("who comes in second 1", x.party(1, 0), 0);
        x.seconds(1);
        due("came", x.party(1, 0), 1);
        x.seconds(297);
        due("ahead of second 299", x.party(2, 0), 0);
        x.seconds(1);
        due("behind second 299", x.party(2, 0), 1);
        terms("(1) the PARTIES told for it come, by number, behind those who wait: outside those that go in, inside those that go out.");
        // One seat, springs of 2: one enters each four seconds.
        x = Texts.with("lock 1;party 1 at 1 in;party 1 at 0 in;party 1 at 1 in;party 1 at 0 in;");
        x.seconds(13);
        int[] wait = {7, 0, 11, 4};
        for (int i = 0; i < 4; i++) {
            due("wait of party " + i, x.party(i, 1), wait[i]);
        }
        AviaryLock y = Texts.with("lock 1;party 2 at 0 in;party 3 at 0 out;party 4 at 0 out;");
        y.seconds(1);
        due("outside", y.line(0), 1);
        due("inside", y.line(1), 2);
        due("in the lock", y.line(2), 0);
    }

    private void openDoors() {
        terms("(2) An open DOOR is open one SECOND less; with none left it is shut.");
        AviaryLock x = Texts.with("latch;spring 9 1;party 1 at 0 in;");
        for (int left = 9; left > 0; left--) {
            x.seconds(1);
            due("the outer door", x.door(0), left);
            due("who waits for it", x.party(0, 0), 2);
        }
        x.seconds(1);
        due("it is shut", x.door(0), 0);
        due("who waited is through", x.party(0, 0), 3);
        due("the inner door", x.door(1), 1);
        x.seconds(1);
        due("it is shut, too", x.door(1), 0);
        x.seconds(1);
        due("a shut door stays so", x.door(0) + x.door(1), 0);
    }

    private void inGoesFirst() {
        terms("(3) One each, in this order: of the lock the first PARTY (by when it entered) that goes in passes the inner DOOR, and is through;");
        AviaryLock x = Texts.with("lock 9;latch;party 1 at 1 in;party 1 at 0 in;");
        x.seconds(4);
        due("who entered first", x.party(1, 0), 3);
        due("who entered next", x.party(0, 0), 2);
        x.seconds(1);
        due("one each second", x.party(0, 0), 3);
        // Draws 71 and 98: the one that goes out holds the inner door in second 0; in second 1 both doors are shut,
        // the one that goes in passes first, the other one would have to hold.
        AviaryLock y = Texts.with("manners 80;lock 9;spring 1 1;party 1 at 0 in;party 1 at 0 out;");
        y.seconds(1);
        due("both in the lock", y.line(2), 2);
        y.seconds(1);
        due("in goes first", y.party(0, 0), 3);
        due("out goes not", y.party(1, 0), 2);
    }

    private void outGoesNext() {
        terms("of the lock the first that goes out passes the outer one, and is through;");
        AviaryLock x = Texts.with("lock 9;latch;party 1 at 1 out;party 1 at 0 out;");
        x.seconds(4);
        due("who entered first", x.party(1, 0), 3);
        due("who entered next", x.party(0, 0), 2);
        due("by the outer door", x.door(0), 2);
        x.seconds(1);
        due("one each second", x.party(0, 0), 3);
        // The seat that it leaves can be taken in the same second, by the door that it opened.
        AviaryLock y = Texts.with("lock 1;latch;party 1 at 0 out;party 1 at 1 in;");
        y.seconds(2);
        due("one waits", y.party(1, 0), 1);
        y.seconds(1);
        due("out is through", y.party(0, 0), 3);
        due("in entered", y.party(1, 1), 1);
    }

    private void enteringOutside() {
        terms("the first that waits outside passes the outer DOOR into the lock, if its SEATS are free (asked first);");
        AviaryLock x = Texts.with("lock 5;latch;party 2 at 0 in;party 3 at 0 in;party 1 at 0 in;");
        x.seconds(1);
        due("one each second", x.line(2), 1);
        x.seconds(1);
        due("just as many seats as there are", x.about(6), 5);
        x.seconds(1);
        due("no seat for the third", x.party(2, 0), 1);
        AviaryLock y = Texts.with("lock 4;latch;party 2 at 0 in;party 3 at 0 in;party 1 at 0 in;");
        y.seconds(2);
        due("one seat too few for the second", y.party(1, 0), 1);
        due("who waits behind it waits", y.party(2, 0), 1);
        // The outside is asked ahead of the inside.
        AviaryLock z = Texts.with("lock 1;party 1 at 0 out;party 1 at 0 in;");
        z.seconds(1);
        due("from outside", z.party(1, 0), 2);
        due("from inside", z.party(0, 0), 1);
        // No seats, no draw, though the other door is open.
        AviaryLock w = Texts.with("lock 3;spring 9 9;manners 100;party 2 at 0 out;party 2 at 1 in;");
        w.seconds(1);
        due("the inner door is open", w.door(1), 9);
        due("no draw yet", w.about(4), 0);
        // In second 1 the one in the lock holds (draw 71) and is through, which frees its seats for the other one, by the open door.
        w.seconds(1);
        due("a draw for who holds alone", w.about(4), 71);
        due("the other one entered", w.party(1, 1), 0);
    }

    private void enteringInside() {
        terms("the first that waits inside passes the inner one likewise.");
        AviaryLock x = Texts.with("lock 5;latch;party 2 at 0 out;party 3 at 0 out;party 1 at 0 out;");
        x.seconds(1);
        due("one each second", x.line(2), 1);
        due("by the inner door", x.door(1), 2);
        due("not by the outer one", x.door(0), 0);
        x.seconds(1);
        due("just as many seats as there are", x.about(6), 5);
        x.seconds(1);
        due("no seat for the third", x.party(2, 0), 1);
        AviaryLock y = Texts.with("lock 4;latch;party 2 at 0 out;party 3 at 0 out;party 1 at 0 out;");
        y.seconds(2);
        due("one seat too few for the second", y.party(1, 0), 1);
        due("who waits behind it waits", y.party(2, 0), 1);
        AviaryLock z = Texts.with("lock 3;spring 9 9;manners 100;party 2 at 0 in;party 2 at 0 out;");
        z.seconds(1);
        due("no seats, no draw", z.about(4), 0);
        due("it waits", z.party(1, 0), 1);
    }

    private void passing() {
        terms("A DOOR can be passed if it is open;");
        AviaryLock x = Texts.with("manners 100;lock 9;spring 9 9;party 1 at 0 in;party 1 at 0 out;party 1 at 1 in;party 1 at 1 out;");
        x.seconds(1);
        due("one held", x.about(4), 71);
        x.seconds(1);
        due("both doors are open: no more draws", x.about(4), 71);
        due("all have passed", x.party(0, 0) + x.party(1, 0) + x.party(2, 0) + x.party(3, 0), 3 + 3 + 2 + 2);
        due("one held alone", x.board(1), NONE);
        terms("if it is shut, but the other one, too;");
        AviaryLock y = Texts.with("latch;spring 1 1;party 1 at 0 in;party 1 at 5 out;");
        y.seconds(1);
        due("a shut outer door by a shut inner one", y.party(0, 0), 2);
        y.seconds(1);
        due("a shut inner door by one just shut", y.party(0, 0), 3);
        due("no draw", y.about(4), 0);
        terms("else, without a latch, if a DRAW");
        AviaryLock z = Texts.with("latch;manners 100;party 1 at 0 in;");
        z.seconds(2);
        due("a latch", z.party(0, 0), 2);
        due("no draw by it", z.about(4), 0);
        AviaryLock w = Texts.with("manners 0;party 1 at 0 in;");
        w.seconds(2);
        due("no manners", w.party(0, 0), 2);
        due("a draw all the same", w.about(4), 71);
    }

    private void drawing() {
        terms("(the SEED, draw at first, becomes its 137-fold and 71 more, modulo 1,000: its rest by 100)");
        int[] draws = {0, 1, 7, 17, 44, 999};
        int[] next = {71, 208, 30, 400, 99, 934};
        for (int i = 0; i < draws.length; i++) {
            AviaryLock x = Texts.with("draw " + draws[i] + ";sort a birds 0 slips 0;");
            due("draw " + draws[i], x.about(4), draws[i]);
            x.food(0, 1);
            due("the seed behind " + draws[i], x.about(4), next[i]);
        }
        terms("is below manners:");
        int[] firstDraw = {71, 0, 99};
        int[] draw = {0, 17, 44};
        for (int i = 0; i < 3; i++) {
            for (int manners : new int[] {0, 1, 70, 71, 72, 98, 99, 100}) {
                AviaryLock x = Texts.with("draw " + draw[i] + ";manners " + manners + ";party 1 at 0 in;");
                x.seconds(2);
                due("draw " + firstDraw[i] + " by manners " + manners, x.party(0, 0), firstDraw[i] < manners ? 3 : 2);
            }
        }
        terms("the PARTY HOLDS then.");
        AviaryLock x = Texts.with("manners 72;party 1 at 0 in;party 1 at 30 in;");
        x.seconds(1);
        due("none yet", x.board(0), NONE);
        x.seconds(1);
        due("it is told on the board", x.board(0), 0);
        AviaryLock y = Texts.with("manners 71;party 1 at 0 in;");
        y.seconds(3);
        due("who waited for the door did not hold it", y.board(0), NONE);
    }

    private void springing() {
        terms("Who passes a DOOR has it open for as many SECONDS as its spring tells, this one too.");
        for (int spring : new int[] {1, 2, 9}) {
            AviaryLock x = Texts.with("spring " + spring + " 3;latch;lock 9;party 1 at 0 in;");
            x.seconds(1);
            due("a spring of " + spring, x.door(0), spring);
            due("in so many seconds it is open", x.opened(0) + 1, spring);
        }
        AviaryLock x = Texts.with("spring 3 3;latch;lock 9;party 1 at 0 in;party 1 at 2 in;");
        x.seconds(2);
        due("nearly shut", x.door(0), 2);
        x.seconds(1);
        due("open anew for who passes it", x.door(0), 3);
    }

    private void slippingIn() {
        terms("(4) By SORTS, by number: if the inner DOOR is open, as many go from WITHIN to BETWEEN as there are, times ODDS, "
            + "and a DRAW more, by 100 (cut; no more than there are);");
        // The draw is 71: of one bird times 28 that makes 99, times 29 it makes 100.
        int[] odds = {0, 28, 29, 100};
        int[] goes = {0, 0, 1, 1};
        for (int i = 0; i < odds.length; i++) {
            AviaryLock x = Texts.with("sort a birds 1 slips " + odds[i] + ";party 1 at 0 out;");
            x.seconds(1);
            due("one bird by odds of " + odds[i], x.sort(0, 1), goes[i]);
            due("within by odds of " + odds[i], x.sort(0, 0), 1 - goes[i]);
        }
        AviaryLock x = Texts.with("sort a birds 240 slips 100;sort b birds 10 slips 0;sort c birds 0 slips 100;sort d birds 101 slips 1;party 1 at 0 out;");
        x.seconds(1);
        due("all, and no more", x.sort(0, 1), 240);
        due("none left", x.sort(0, 0), 0);
        due("none by odds of 0", x.sort(1, 1), 0);
        due("none of none", x.sort(2, 1), 0);
        // The fourth draw is 60: (101 + 60) / 100.
        due("by number, the fourth by the fourth draw", x.sort(3, 1), 1);
        AviaryLock y = Texts.with("sort a birds 9 slips 100;party 1 at 0 in;");
        y.seconds(1);
        due("the inner door is shut", y.sort(0, 0), 9);
    }

    private void slippingOut() {
        terms("if the outer one is open, from BETWEEN to OUTSIDE likewise (ODDS asked anew).");
        AviaryLock x = Texts.with("spring 1 1;sort a birds 240 slips 100;party 1 at 0 out;");
        x.seconds(1);
        due("the outer door is shut", x.sort(0, 2), 0);
        due("between", x.sort(0, 1), 240);
        x.seconds(1);
        due("all, and no more", x.sort(0, 2), 240);
        due("none left between", x.sort(0, 1), 0);
        // Both doors open in one second: those that come between can go on at once.
        AviaryLock y = Texts.with("manners 100;lock 9;spring 1 1;sort a birds 100 slips 100;party 1 at 0 in;party 1 at 0 out;");
        y.seconds(1);
        due("within, between, outside in one second", y.sort(0, 2), 100);
        // Draws 71 (it holds), 98 and 97: (10 * 50 + 98) / 100 = 5, (5 * 50 + 97) / 100 = 3.
        AviaryLock z = Texts.with("manners 100;lock 9;spring 1 1;sort a birds 10 slips 50;party 1 at 0 in;party 1 at 0 out;");
        z.seconds(1);
        due("within", z.sort(0, 0), 5);
        due("between", z.sort(0, 1), 2);
        due("outside", z.sort(0, 2), 3);
    }

    private void drawsOfDoors() {
        terms("Each DOOR that is open for a SORT takes a DRAW, whatever there is.");
        int[] seeds = {0, 71, 798, 397, 460, 91, 538, 777};
        String sorts = "";
        for (int n = 0; n <= 3; n++) {
            AviaryLock x = Texts.with("latch;spring 1 1;" + sorts + "party 1 at 0 in;");
            x.seconds(1);
            due("one door, sorts " + n, x.about(4), seeds[n]);
            x.seconds(1);
            due("the other door, sorts " + n, x.about(4), seeds[2 * n]);
            x.seconds(1);
            due("no door, sorts " + n, x.about(4), seeds[2 * n]);
            AviaryLock y = Texts.with("manners 100;lock 9;" + sorts + "party 1 at 0 in;party 1 at 0 out;");
            y.seconds(1);
            due("who holds and both doors, sorts " + n, y.about(4), seeds[1 + 2 * n]);
            sorts = sorts + "sort " + (char) ('a' + n) + " birds 0 slips 0;";
        }
    }

    private void gaps() {
        terms("A SECOND with both DOORS open behind (3) is a GAP.");
        AviaryLock x = Texts.with("manners 100;spring 3 2;party 1 at 0 in;");
        // Outer in 0, 1, 2; it holds the inner one in 1, which is open in 1, 2.
        int[] gaps = {0, 0, 1, 2, 2, 2};
        for (int i = 0; i < gaps.length; i++) {
            due("gaps ahead of second " + i, x.about(11), gaps[i]);
            x.seconds(1);
        }
        // The outer door is shut in the second in which the inner one is passed.
        AviaryLock y = Texts.with("manners 100;spring 1 9;party 1 at 0 in;");
        y.seconds(20);
        due("none by an outer spring of 1", y.about(11), 0);
    }

    private void waits() {
        terms("WAIT of a PARTY: how many SECONDS from that in which it came to that in which it entered the lock.");
        AviaryLock x = Texts.with("lock 1;latch;spring 9 9;" + "party 1 at 0 in;".repeat(12));
        x.seconds(1);
        due("it entered when it came", x.party(0, 1), 0);
        due("it did not enter", x.party(1, 1), NONE);
        x.seconds(18);
        due("it entered when both doors were shut again", x.party(1, 1), 18);
        x.seconds(180);
        due("the last one", x.party(11, 1), 11 * 18);
        AviaryLock y = Texts.with("lock 1;latch;party 1 at 0 in;party 1 at 3 in;");
        y.seconds(5);
        due("one that came later", y.party(1, 1), 1);
    }
}
