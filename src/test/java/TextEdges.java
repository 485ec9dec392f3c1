/** The edges of a house's text: its tokens, lines and formulas, and the faults with their places. */
final class TextEdges extends Edges {
    private static final String SORT = "sort a birds 1 slips ";
    private static final String[] WORDS = {"lock", "spring", "latch", "manners", "dark", "curtain", "sort", "birds", "slips", "party",
        "at", "in", "out", "pram", "draw", "or", "and", "not", "gap", "people", "night", "veil", "week", "slipped"};

    TextEdges(Check check, Doc doc) {
        super(check, doc);
    }

    @Override
    void run() {
        noLines();
        eachLine();
        formulas();
        words();
        numbers();
        signs();
        blanks();
        longest();
        letterBehindNumber();
        names();
        firstByPlace();
        theEnd();
        leastAtOnePlace();
        noToken();
        cannotStand();
        tooMany();
        nameTold();
        numberCannotBe();
    }

    private void sound(String text) {
        fault(text, 0, NONE);
    }

    private void fault(String text, int kind, int place) {
        AviaryLock x = new AviaryLock();
        Texts.put(x, text);
        boolean fails = x.house() == NONE;
        due("'" + text + "' fails", fails, kind != 0);
        due("fault of '" + text + "'", x.fault(0), kind);
        due("place of the fault of '" + text + "'", x.fault(1), place);
    }

    private void noLines() {
        terms("house = {line}.");
        sound("");
        sound(" ");
        sound("dark;");
        sound("dark;latch;");
        fault("dark;;", 2, 5);
        fault(";dark;", 2, 0);
        fault("dark;5", 2, 5);
        StringBuilder all = new StringBuilder("lock 5;spring 1 9;latch;manners 7;dark;curtain 3;draw 8;");
        for (char name = 'a'; name < 'e'; name++) {
            all.append("sort ").append(name).append(" birds 2 slips 3;");
        }
        all.append("party 1 at 2 in;".repeat(12));
        AviaryLock x = Texts.with(all.toString());
        due("as many lines as can be, parties", x.about(0), 12);
        due("as many lines as can be, sorts", x.about(1), 4);
    }

    private void eachLine() {
        terms("line = lock N ; | spring N N ; | latch ; | manners N ; | dark ; | curtain N ; | sort NAME birds N slips e ; "
            + "| party N at N (in | out) [pram] ; | draw N ;.");
        String[] lines = {"lock 5 ;", "spring 1 2 ;", "latch ;", "manners 3 ;", "dark ;", "curtain 4 ;", "sort a birds 1 slips 2 ;",
            "party 1 at 2 in ;", "party 1 at 2 out ;", "draw 6 ;"};
        for (String line : lines) {
            sound(line);
            cutAndSpoiled(line.split(" "));
        }
        sound("party 1 at 2 in pram;");
        sound("party 1 at 2 out pram;");
        fault("party 1 at 2 pram;", 2, 13);
        fault("party 1 at 2 in out;", 2, 16);
        fault("party 1 at 2 in pram pram;", 2, 21);
        fault("party 1 at 2 pram in;", 2, 13);
        fault("party 1 at 2 in pram", 2, 20);
    }

    /** The line lacks each of its tokens, has a wrong one in its stead, one too many ahead of it, ends behind it. */
    private void cutAndSpoiled(String[] tokens) {
        StringBuilder head = new StringBuilder();
        for (int i = 0; i < tokens.length; i++) {
            fault(head + ") " + rest(tokens, i + 1), 2, head.length());
            fault(head + ") " + rest(tokens, i), 2, head.length());
            if (!tokens[i].equals("1") || !tokens[i + 1].equals("2")) {
                fault(head + rest(tokens, i + 1), 2, head.length());
            }
            head.append(tokens[i]);
            if (i + 1 < tokens.length) {
                fault(head.toString(), 2, head.length());
            }
            head.append(' ');
        }
    }

    private static String rest(String[] tokens, int from) {
        StringBuilder rest = new StringBuilder();
        for (int i = from; i < tokens.length; i++) {
            rest.append(tokens[i]).append(' ');
        }
        return rest.toString();
    }

    private void odds(String formula, int want) {
        due("odds of " + formula, Texts.with(SORT + formula + ";").sort(0, 4), want);
    }

    private void formulas() {
        terms("e = both {or both}.");
        odds("0", 0);
        odds("0 or 0", 0);
        odds("0 or 0 or 7", 1);
        fault(SORT + "1 or;", 2, 25);
        fault(SORT + "or 1;", 2, 21);
        odds("1 or 0 and 0", 1);
        terms("both = one {and one}.");
        odds("7 and 7", 1);
        odds("7 and 7 and 0", 0);
        fault(SORT + "1 and;", 2, 26);
        fault(SORT + "and 1;", 2, 21);
        odds("0 and 0 or 1", 1);
        terms("one = not one | sum [(< | > | =) sum].");
        odds("not 0", 1);
        odds("not not 0", 0);
        odds("not 1 < 2", 0);
        odds("not 0 and 0", 0);
        fault(SORT + "not;", 2, 24);
        fault(SORT + "1 not 1;", 2, 23);
        fault(SORT + "1 + not 1;", 2, 25);
        fault(SORT + "1 < not 1;", 2, 25);
        for (String sign : new String[] {"<", ">", "="}) {
            fault(SORT + sign + "1;", 2, 21);
            fault(SORT + "1" + sign + ";", 2, 23);
            fault(SORT + "1" + sign + "2<3;", 2, 24);
            fault(SORT + "1<2" + sign + "3;", 2, 24);
            sound(SORT + "(1" + sign + "2)<3;");
        }
        terms("sum = term {(+ | -) term}.");
        odds("9", 9);
        odds("9-5-3", 1);
        odds("9-5+3", 7);
        odds("1+2<3", 0);
        fault(SORT + "+1;", 2, 21);
        fault(SORT + "-1;", 2, 21);
        fault(SORT + "1-;", 2, 23);
        fault(SORT + "1+-1;", 2, 23);
        terms("term = unit {(* | / | %) unit}.");
        odds("1+2*3", 7);
        odds("2*3+1", 7);
        odds("24/4*2", 12);
        odds("29%10/2", 4);
        odds("2*3%4", 2);
        fault(SORT + "*1;", 2, 21);
        fault(SORT + "1%;", 2, 23);
        fault(SORT + "1*/1;", 2, 23);
        terms("unit = N | gap | people | night | veil | week | slipped | ( e ).");
        for (String word : new String[] {"gap", "people", "night", "veil", "week", "slipped"}) {
            odds(word, 0);
        }
        odds("0000", 0);
        odds("(7)", 7);
        odds("2*(3+4)", 14);
        odds("9*(0 or 7)", 9);
        odds("9*(not 0)", 9);
        fault(SORT + "();", 2, 22);
        fault(SORT + "(1;", 2, 23);
        fault(SORT + "1);", 2, 22);
        fault(SORT + "1 1;", 2, 23);
        fault(SORT + "1 gap;", 2, 23);
        fault(SORT + "a;", 2, 21);
        fault(SORT + "birds;", 2, 21);
        fault(SORT + ";", 2, 21);
    }

    private void words() {
        terms("TOKENS: words (a .. z, 8 at most)");
        sound("sort a birds 1 slips 1;");
        sound("sort z birds 1 slips 1;");
        sound("sort abcdefgh birds 1 slips 1;");
        sound("sort zyxwvuts birds 1 slips 1;");
        fault("sort abcdefghi birds 1 slips 1;", 1, 5);
        fault("sort slippedxy birds 1 slips 1;", 1, 5);
        fault("abcdefgh", 2, 0);
        fault("abcdefghi", 1, 0);
        fault("latchdark;", 1, 0);
        fault("latchdar;", 2, 0);
        fault("x".repeat(1600), 1, 0);
        fault("sort ` birds 1 slips 1;", 1, 5);
        fault("sort { birds 1 slips 1;", 1, 5);
        fault("sort a{ birds 1 slips 1;", 1, 6);
        fault("sort A birds 1 slips 1;", 1, 5);
        fault("sort aZ birds 1 slips 1;", 1, 6);
        fault("sort \u00e9 birds 1 slips 1;", 1, 5);
    }

    private void numbers() {
        terms("N (1 to 4 digits)");
        sound("lock 4;");
        due("a number of 2 digits", Texts.with("lock 09;").about(5), 9);
        due("a number of 4 digits", Texts.with("lock 0017;").about(5), 17);
        fault("lock 00017;", 1, 5);
        fault("lock 00000;", 1, 5);
        fault("lock " + "1".repeat(40) + ";", 1, 5);
        sound(SORT + "0;");
        sound(SORT + "9999;");
        fault(SORT + "10000;", 1, 21);
        due("its digits count ten times each", Texts.with("draw 908;").about(4), 908);
        odds("9999-9998", 1);
        odds("1234-1200", 34);
        fault("lock :;", 1, 5);
    }

    private void signs() {
        terms("signs ; ( ) < > = + - * / %");
        for (int sign = 0; sign < 256; sign++) {
            AviaryLock x = new AviaryLock();
            x.feed(sign << 24, 0, 0, 0, 0);
            x.end(1);
            boolean isBlank = sign == 32 || sign == 10;
            boolean isToken = ";()<>=+-*/%".indexOf(sign) >= 0 || sign >= 'a' && sign <= 'z' || sign >= '0' && sign <= '9';
            due("house() of byte " + sign, x.house(), isBlank ? 0 : NONE);
            due("fault of byte " + sign, x.fault(0), isBlank ? 0 : isToken ? 2 : 1);
        }
    }

    private void blanks() {
        terms("blanks (32, 10) part them or not");
        AviaryLock x = Texts.with("spring3 4;lock9;sort a birds2 slips3*(people+1)<5 or not gap;party1at2;");
        due("fault where a blank is missed", x.fault(0), 1);
        x = Texts.with("spring3 4;lock9;sort a birds2 slips3*(people+1)<5 or not gap;party1 at2 in;");
        due("parties with no more blanks than must be", x.about(0), 1);
        due("seats", x.about(5), 9);
        due("odds", x.sort(0, 4), 1);
        x = Texts.with(" \n lock \n\n 9  ;\n\n  latch\n;  \n");
        due("seats with many blanks", x.about(5), 9);
        due("a latch", x.about(9), 1);
        for (int sign : new int[] {9, 11, 12, 13, 31, 33, 0, 160}) {
            fault("lock" + (char) sign + "9;", 1, 4);
        }
    }

    private void longest() {
        terms("each is as long as can be");
        fault("lat ch;", 2, 0);
        fault("latchs;", 2, 0);
        fault("inout", 2, 0);
        fault("lockspring", 1, 0);
        fault("party 1 at 0 inpram;", 2, 13);
        sound("sort inn birds 1 slips 1;");
        sound("sort gapgap birds 1 slips 1;");
        fault(SORT + "gapgap;", 2, 21);
        due("one number of two digits", Texts.with("lock 12;").about(5), 12);
        fault("lock 1 2;", 2, 7);
        fault("spring 12;", 4, 7);
        sound("spring 1 2;");
        fault(SORT + "1 2;", 2, 23);
    }

    private void letterBehindNumber() {
        terms("no letter directly behind an N.");
        fault("lock 4a;", 1, 5);
        fault("lock 4lock", 1, 5);
        fault("party 1 at 0in;", 1, 11);
        fault("party 1at 0 in;", 1, 6);
        fault(SORT + "1or 1;", 1, 21);
        fault(SORT + "9999z;", 1, 21);
        sound("party 1 at 0 in;");
        sound("party 1\nat 0\nin;");
        sound("lock4;");
        sound(SORT + "1*gap;");
        // A capital is no letter of a word: the N is one, what stands behind it is no token.
        fault("lock 4A;", 1, 6);
    }

    private void names() {
        terms("Words that stand for themselves here are no NAMES.");
        for (String word : WORDS) {
            fault("sort " + word + " birds 1 slips 1;", 2, 5);
        }
        for (String word : new String[] {"house", "line", "name", "n", "e", "both", "one", "sum", "term", "unit", "seats", "lat", "pra"}) {
            sound("sort " + word + " birds 1 slips 1;");
        }
    }

    private void firstByPlace() {
        terms("FAULTS, the first by its place");
        fault("lock 0;lock 21;!", 4, 5);
        fault("!lock 0;", 1, 0);
        fault("lock 4;;!", 2, 7);
        fault(SORT + "1;sort a birds 999 slips 1;", 3, 28);
        fault(SORT + "1;sort b birds 999 slips !;", 4, 36);
        fault("party 10 at 300 in;", 4, 6);
        fault("party 1 at 300 up;", 4, 11);
        fault("lock 4;lock 99999;", 2, 7);
    }

    private void theEnd() {
        terms("(bytes from 0; the end: the text's length)");
        fault("!", 1, 0);
        fault(" !", 1, 1);
        fault("\n\n!", 1, 2);
        fault("lock", 2, 4);
        fault("lock ", 2, 5);
        fault("lock 4", 2, 6);
        fault("lock 4 \n ", 2, 9);
        fault(SORT + "(1", 2, 23);
        fault(" ".repeat(1599) + "!", 1, 1599);
        fault(" ".repeat(1595) + "latch", 2, 1600);
    }

    private void leastAtOnePlace() {
        terms("at one place the least");
        fault("lock 4 99999;", 1, 7);
        fault("lock 99999;", 1, 5);
        fault("lock 4 99;", 2, 7);
        fault("99;", 2, 0);
        fault("sort 999 birds 1 slips 1;", 2, 5);
        fault(SORT + "a;", 2, 21);
        fault(SORT + "1;sort birds birds 1 slips 1;", 2, 28);
        fault(SORT + "1" + "+1".repeat(29) + "+12345;", 1, 21 + 60);
        fault(SORT + "not ".repeat(7) + "abcdefghi;", 1, 21 + 28);
    }

    private void noToken() {
        terms("1 no TOKEN");
        fault("Lock 4;", 1, 0);
        fault("lock 4.", 1, 6);
        fault("lock 4;\u0000", 1, 7);
        fault("lock 4;\u00ff", 1, 7);
        fault(SORT + "1!2;", 1, 22);
        fault(SORT + "1<=2;", 2, 23);
        fault(SORT + "12345;", 1, 21);
        fault("sort ninechars birds 1 slips 1;", 1, 5);
    }

    private void cannotStand() {
        terms("2 one that can't stand there");
        for (String word : WORDS) {
            boolean begins = " lock spring latch manners dark curtain sort party draw ".contains(" " + word + " ");
            fault(word + " )", 2, begins ? word.length() + 1 : 0);
        }
        fault("foo;", 2, 0);
        fault("5;", 2, 0);
        fault("lock four;", 2, 5);
        fault("lock (4);", 2, 5);
        fault("lock -4;", 2, 5);
        fault("lock 4 lock 5;", 2, 7);
    }

    private void tooMany() {
        terms("(one of a sort too many or a second time: at the line's first word;");
        for (String line : new String[] {"lock 4;", "spring 1 1;", "latch;", "manners 5;", "dark;", "curtain 1;", "draw 1;"}) {
            String head = "party 1 at 1 in;" + line + "party 2 at 2 out; ";
            sound(head);
            fault(head + line, 2, head.length());
        }
        fault("lock 4;lock 99;", 2, 7);
        fault("lock 4;lock", 2, 7);
        StringBuilder sorts = new StringBuilder();
        for (char name = 'a'; name < 'e'; name++) {
            sorts.append("sort ").append(name).append(" birds 1 slips 1;");
        }
        sound(sorts.toString());
        fault(sorts + "sort e birds 1 slips 1;", 2, sorts.length());
        fault(sorts + " sort a birds 1 slips 1;", 2, sorts.length() + 1);
        String parties = "party 1 at 1 in;".repeat(12);
        sound(parties);
        fault(parties + "party 1 at 1 in;", 2, parties.length());
        fault(parties + "\nparty 10 at 1 in;", 2, parties.length() + 1);
        terms("a unit too many, what is within 7 others: at its first TOKEN, or the not)");
        String thirty = SORT + "1" + "+1".repeat(29);
        fault(thirty + "+1;", 2, 21 + 60);
        fault(thirty + "+gap;", 2, 21 + 60);
        fault(thirty.replace("+", "*") + "*1;", 2, 21 + 60);
        fault(thirty.replace("+", " or ") + " or 1;", 2, 21 + 30 + 30 * 4);
        fault(thirty.replace("+", " and ") + " and 1;", 2, 21 + 30 + 30 * 5);
        fault(thirty + "+(1);", 2, 21 + 60);
        fault(thirty + " or not 1;", 2, 21 + 59 + 8);
        String bracketsAndTwentyThree = SORT + "(((((((1" + "+1".repeat(22);
        sound(bracketsAndTwentyThree + ")))))));");
        fault(bracketsAndTwentyThree + "+1)))))));", 2, 21 + 53);
        fault(SORT + "((((((((1))))))));", 2, 21 + 7);
        fault(SORT + "not ".repeat(8) + "1;", 2, 21 + 28);
        fault(SORT + "not ".repeat(7) + "(1);", 2, 21 + 28);
        fault(SORT + "(((((((not 1)))))));", 2, 21 + 7);
    }

    private void nameTold() {
        terms("3 a NAME of a SORT told already");
        fault(SORT + "1;" + SORT + "1;", 3, 23 + 5);
        fault(SORT + "1;sort b birds 1 slips 1;sort b birds 1 slips 1;", 3, 46 + 5);
        fault(SORT + "1;sort b birds 1 slips 1;sort a birds 1 slips 1;", 3, 46 + 5);
        fault(SORT + "1;sort b birds 1 slips 1;sort c birds 1 slips 1;sort a!", 3, 69 + 5);
        sound(SORT + "1;sort aa birds 1 slips 1;sort b birds 1 slips 1;sort ab birds 1 slips 1;");
        fault("sort abcdefgh birds 1 slips 1;sort abcdefgh;", 3, 35);
        sound("sort abcdefgh birds 1 slips 1;sort abcdefgi birds 1 slips 1;sort abcdefg birds 1 slips 1;sort bbcdefgh birds 1 slips 1;");
        AviaryLock x = Texts.with(SORT + "1;");
        Texts.put(x, SORT + "1;");
        due("a name told in another house", x.house(), 0);
    }

    private void numberCannotBe() {
        terms("4 a number that can't be.");
        fault("lock 0;", 4, 5);
        fault("lock 0000;", 4, 5);
        fault("lock 9999;", 4, 5);
        fault("lock  21 ;", 4, 6);
        fault("spring 0 0;", 4, 7);
        fault("spring 1 0;", 4, 9);
        fault("manners 101", 4, 8);
        sound(SORT + "9999;");
    }
}
