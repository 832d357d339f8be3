/** Boundary cases of "Terms" and of promises 1 to 9, in the document's order. */
public final class BoundsFieldTest {
    private static final Check CHECK = new Check("BoundsFieldTest");
    private static final String EIGHT = "11;11;11;11;11;11;11;11";

    public static void main(String[] args) {
        termsCorn();
        termsEdge();
        termsNotSeenYet();
        termsNumbers();
        termsBrackets();
        termsDay();
        newObject();
        signFull();
        signBytes();
        endBounds();
        fieldEmpty();
        fieldFull();
        fieldRefused();
        peopleEmpty();
        peopleEndsTooEarly();
        peopleFull();
        peopleLetters();
        peopleSeventySix();
        peopleNothingComes();
        ruleEmpty();
        ruleForty();
        ruleRefusedLeavesNothing();
        furrowBounds();
        personBounds();
        personOfEight();
        sheetEntries();
        sheetBits();
        sheetMissing();
        sheetRefused();
        CHECK.finish();
    }

    /** "CORN 0 .. 9"; "1 less (0 at least)"; "1 more (9 at most)"; a rope that begins and ends inside 16 furrows. */
    private static void termsCorn() {
        RopeRemembers x = Check.made("9876543210012345", "90");
        x.rope(5, 9);
        x.crossing(1);
        CHECK.corn("terms: 0 at least, 9 at most", x, "9987632100123456");
        CHECK.row("terms: paid of the rope alone", x, 10, 0);
        x.rope(0, 15);
        x.crossing(60);
        CHECK.corn("terms: 0 at least", x, "0000000000000000");
        x.rope(15, 15);
        x.crossing(60);
        CHECK.corn("terms: 9 at most", x, "9999999999999990");
        x.rope(0, 0);
        x.crossing(1);
        CHECK.corn("terms: first and last furrow", x, "8999999999999991");
    }

    /** "IN: who has BELIEF of EDGE or more; OUT: the others." */
    private static void termsEdge() {
        RopeRemembers x = Check.made("0", "00;99;89;10;01;55;45;65");
        CHECK.due("terms: in", x.count(4), 1 + 2 + 8 + 32 + 128);
        CHECK.due("terms: out", x.count(13), 4 + 16 + 64);
    }

    /** "A letter of nobody who is there is not seen (yet)." */
    private static void termsNotSeenYet() {
        RopeRemembers x = Check.made("0", "05bc;95a");
        CHECK.due("terms: not seen yet", x.person(0, 2), 2);
        CHECK.due("terms: glances", x.count(14), 2);
        Check.rule(x, "n");
        CHECK.due("terms: n", x.person(0, 4), 1);
        Check.rule(x, "a");
        CHECK.due("terms: a", x.person(0, 4), 9);
        Check.rule(x, "x+1");
        CHECK.due("terms: x", x.person(0, 4), 1);
        CHECK.due("terms: depends", x.depends(0), 3);
        CHECK.due("terms: cut", x.cut(0, 1), 1);
        CHECK.due("terms: faces", x.faces(), -2);
        CHECK.due("terms: circle", x.circle(), 2);
        CHECK.due("terms: knows", x.knows(1), 0);
        CHECK.due("terms: spreads", x.spreads(1), 1);
        CHECK.row("terms: spreads", x, 3, 1);
        CHECK.due("terms: c comes", Check.people(x, "05"), 1);
        CHECK.due("terms: seen now", x.person(0, 2), 6);
        CHECK.due("terms: x now", x.person(0, 4), 2);
        Check.rule(x, "a");
        CHECK.due("terms: a now", x.person(0, 4), 4);
        CHECK.due("terms: glances now", x.count(14), 3);
        CHECK.due("terms: depends now", x.depends(0), 7);
        RopeRemembers y = Check.made("0", "37h");
        Check.rule(y, "a");
        CHECK.due("terms: its own, if it sees nobody who is there", y.person(0, 4), 3);
        CHECK.due("terms: knows without any seen", y.knows(9), 1);
    }

    private static void value(String rule, int want) {
        RopeRemembers x = Check.made("0", "53");
        CHECK.due("terms: " + rule + " is a rule", Check.rule(x, rule), 0);
        CHECK.due("terms: " + rule, x.person(0, 4), want);
    }

    /** "by 0: 0; cut to 0"; "1 or 0"; "a NUMBER of 1 to 3 digits"; "As ints, put to 0 .. 9". */
    private static void termsNumbers() {
        value("9/0+4", 4);
        value("0/0+4", 4);
        value("9/(b-5)+1", 1);
        value("8+(0-7)/2", 5);
        value("8+7/(0-2)", 5);
        value("8-1/2", 8);
        value("12-8", 4);
        value("120-113", 7);
        value("999-991", 8);
        value("010-3", 7);
        value("0", 0);
        value("9", 9);
        value("10", 9);
        value("-1", 0);
        value("(2<1)+3", 3);
        value("(1>2)+3", 3);
        value("(1=2)+3", 3);
        value("(1<2)+3", 4);
        value("512*512*512*16<0", 1);
        value("512*512*512*16", 0);
        value("512*512*512*16/-1<0", 1);
        value("-(512*512*512*16)<0", 1);
        value("512*512*512*16-1>0", 1);
        value("512*512*512*32+7", 7);
    }

    /** "(at most 4 in one another)"; "not one behind the other". */
    private static void termsBrackets() {
        value("((((5))))", 5);
        value("((((1))))+((((2))))+(3)", 6);
        value("((((1))+1)+1)+1", 4);
        value("(1<2)=(2<3)", 1);
        value("((1<2)<3)<4", 1);
        RopeRemembers x = Check.made("0", "53");
        CHECK.due("terms: five in one another", Check.rule(x, "(((((5)))))"), -5);
        CHECK.due("terms: a fifth later", Check.rule(x, "((((1)+(2))+((3))))"), 0);
        CHECK.due("terms: a fifth inside", Check.rule(x, "((((1)+((2)))))"), -9);
        CHECK.due("terms: one behind the other", Check.rule(x, "1<2=3"), -4);
        CHECK.due("terms: one behind the other, inside", Check.rule(x, "(1<2>3)"), -5);
        CHECK.due("terms: behind a bracket", Check.rule(x, "1<(2<3)<4"), -8);
        CHECK.due("terms: two brackets, one each", Check.rule(x, "(1<2)+(1<2)"), 0);
        CHECK.due("terms: anew in the next bracket", Check.rule(x, "(1<2)+(1=2<3)"), -11);
    }

    /** "d DAY by 7 (rest)". */
    private static void termsDay() {
        RopeRemembers x = Check.made("0", "90");
        Check.rule(x, "d");
        for (int day = 0; day <= 14; day++) {
            CHECK.due("terms: d of day " + day, x.person(0, 4), day % 7);
            x.crossing(1);
        }
    }

    /** Promise 1: "One FURROW; no PEOPLE." */
    private static void newObject() {
        RopeRemembers x = new RopeRemembers();
        CHECK.same("1: all", Check.state(x), "1 0 0 0 0 0 0 0 0 0 0 0 0 | 01");
        CHECK.same("1: the row", Check.rowOf(x), "");
        CHECK.due("1: the text", x.count(12), 0);
        CHECK.due("1: no signs", x.rope(0, 0), 1);
        CHECK.due("1: no second furrow", x.rope(0, 1), -1);
        CHECK.due("1: nobody", x.show(0), -1);
    }

    /** Promise 2: "Refused: there would be more than 80." */
    private static void signFull() {
        for (int length = 74; length <= 80; length++) {
            RopeRemembers x = new RopeRemembers();
            Check.tell(x, Check.many("1", length));
            boolean room = length <= 76;
            CHECK.due("2: behind " + length, x.sign(0x32323232), room ? length + 4 : -1);
            CHECK.due("2: signs behind " + length, x.count(12), room ? length + 4 : length);
        }
        RopeRemembers x = new RopeRemembers();
        Check.tell(x, Check.many("1", 80));
        x.sign(0x32323232);
        x.end(16);
        CHECK.due("2: refused leaves the text", x.field(), 16);
        CHECK.corn("2: refused leaves the text", x, Check.many("1", 16));
    }

    /** Promise 2: "of v the highest byte first", bytes of 128 and more among them. */
    private static void signBytes() {
        RopeRemembers x = new RopeRemembers();
        x.sign(0x31323334);
        x.sign(0x35363738);
        CHECK.due("2: behind the text", x.field(), 8);
        CHECK.corn("2: behind the text", x, "12345678");
        for (int i = 0; i < 4; i++) {
            x.sign(0x31313131 | 0x80 << 8 * (3 - i));
            CHECK.due("2: a byte of 128 and more at " + i, x.field(), -1 - i);
        }
        CHECK.due("2: -1", x.sign(-1), 4);
        CHECK.due("2: 0", x.sign(0), 8);
    }

    /** Promise 3: "false if it has not so many, or n is below 0". */
    private static void endBounds() {
        RopeRemembers x = new RopeRemembers();
        Check.tell(x, Check.many("1", 80));
        CHECK.due("3: 81", x.end(81), false);
        CHECK.due("3: greatest int", x.end(Integer.MAX_VALUE), false);
        CHECK.due("3: below 0", x.end(-1), false);
        CHECK.due("3: least int", x.end(Integer.MIN_VALUE), false);
        CHECK.due("3: refused leaves the text", x.count(12), 80);
        CHECK.due("3: all 80", x.end(80), true);
        CHECK.due("3: still 80", x.count(12), 80);
        CHECK.due("3: 79", x.end(79), true);
        CHECK.due("3: 79 are left", x.count(12), 79);
        CHECK.due("3: the 80th is gone", x.end(80), false);
        CHECK.due("3: none", x.end(0), true);
        CHECK.due("3: empty", x.count(12), 0);
        CHECK.due("3: none of none", x.end(0), true);
        CHECK.due("3: one of none", x.end(1), false);
    }

    /** Promise 4: "its end for none". */
    private static void fieldEmpty() {
        RopeRemembers x = new RopeRemembers();
        CHECK.due("4: none", x.field(), -1);
        CHECK.due("4: one furrow still", x.count(0), 1);
        CHECK.due("4: cut to none", Check.field(x, ""), -1);
        CHECK.due("4: the least", Check.field(x, "9"), 1);
        CHECK.corn("4: the least", x, "9");
    }

    /** Promise 4: "a seventeenth sign: at it". */
    private static void fieldFull() {
        RopeRemembers x = new RopeRemembers();
        String sixteen = "9876543210123456";
        CHECK.due("4: sixteen", Check.field(x, sixteen), 16);
        CHECK.corn("4: sixteen", x, sixteen);
        CHECK.due("4: the rope's right", x.count(2), 15);
        CHECK.due("4: seventeen", Check.field(x, sixteen + "1"), -17);
        CHECK.due("4: seventeen, the last wrong", Check.field(x, sixteen + "x"), -17);
        CHECK.due("4: seventeen, the sixteenth wrong", Check.field(x, sixteen.substring(0, 15) + "x1"), -16);
        CHECK.due("4: eighty", Check.field(x, Check.many("1", 80)), -17);
        CHECK.corn("4: refused", x, sixteen);
        CHECK.due("4: from sixteen to two", Check.field(x, "12"), 2);
        CHECK.noFurrow("4: from sixteen to two", x, 2, 0);
        CHECK.due("4: right of two", x.count(2), 1);
    }

    /** Promise 4: "the sign at p can't stand there": nothing changes but THE TEXT; taken: all of it is anew. */
    private static void fieldRefused() {
        RopeRemembers x = Check.made("123", "95");
        x.keep(0);
        x.keep(1);
        x.crossing(1);
        x.rope(1, 1);
        x.dig(0, 0);
        x.mean();
        String before = Check.state(x);
        String[] texts = {"", "/", ":", "1/", "1:", "a", "12 ", "1-", "1\0"};
        int[] due = {-1, -1, -1, -2, -2, -1, -3, -2, -2};
        for (int i = 0; i < texts.length; i++) {
            CHECK.due("4: '" + texts[i] + "'", Check.field(x, texts[i]), due[i]);
            CHECK.due("4: the text is empty", x.count(12), 0);
            CHECK.same("4: refused", Check.state(x), before);
        }
        CHECK.row("4: refused leaves the row", x, 9, 1);
        CHECK.due("4: refused leaves what is kept", x.again(1), true);
        CHECK.due("4: the same field is anew, too", Check.field(x, "123"), 3);
        CHECK.due("4: nothing is kept under 0", x.again(0), false);
        CHECK.due("4: nothing is kept under 1", x.again(1), false);
        CHECK.due("4: nothing was dug", x.forget(), 0);
        CHECK.due("4: nothing can be undone", x.undo(), -1);
        CHECK.row("4: the row stays", x, 9, 1);
    }

    /** Promise 5: "(an empty one: nothing)". */
    private static void peopleEmpty() {
        RopeRemembers x = new RopeRemembers();
        CHECK.due("5: empty", x.people(), 0);
        CHECK.due("5: nobody", x.count(3), 0);
        Check.people(x, EIGHT);
        CHECK.due("5: empty, all are there", Check.people(x, ""), 0);
        CHECK.due("5: eight", x.count(3), 8);
    }

    /** Promise 5: "its end, if it ends too early". */
    private static void peopleEndsTooEarly() {
        RopeRemembers x = new RopeRemembers();
        CHECK.due("5: behind BELIEF", Check.people(x, "1"), -2);
        CHECK.due("5: behind ;", Check.people(x, "11;"), -4);
        CHECK.due("5: behind BELIEF of the second", Check.people(x, "11;1"), -5);
        CHECK.due("5: behind ; and letters", Check.people(x, "11bh;"), -6);
        CHECK.due("5: the least", Check.people(x, "00"), 1);
        CHECK.due("5: the greatest", Check.people(x, "99acdefgh"), 1);
    }

    /** Promise 5: "the first sign of a LINE for which there is no room". */
    private static void peopleFull() {
        RopeRemembers x = new RopeRemembers();
        CHECK.due("5: nine", Check.people(x, EIGHT + ";11"), -25);
        CHECK.due("5: nine, wrong sign", Check.people(x, EIGHT + ";x"), -25);
        CHECK.due("5: nine, without a sign", Check.people(x, EIGHT + ";"), -25);
        CHECK.due("5: nobody came", x.count(3), 0);
        CHECK.due("5: eight", Check.people(x, EIGHT), 8);
        CHECK.due("5: a ninth", Check.people(x, "11"), -1);
        CHECK.due("5: a ninth, half", Check.people(x, "1"), -1);
        CHECK.due("5: a ninth, ;", Check.people(x, ";"), -1);
        RopeRemembers y = Check.made("0", "11;11;11;11;11;11;11");
        CHECK.due("5: room for one", Check.people(y, "11;11"), -4);
        CHECK.due("5: seven still", y.count(3), 7);
        CHECK.due("5: the eighth", Check.people(y, "11abcdefg"), 1);
        CHECK.due("5: whom it sees", y.person(7, 2), 127);
    }

    /** Promise 5: "a letter that is no more than the one ahead, or its own: at it". */
    private static void peopleLetters() {
        RopeRemembers x = new RopeRemembers();
        CHECK.due("5: like the one ahead", Check.people(x, "11bb"), -4);
        CHECK.due("5: less than the one ahead", Check.people(x, "11hb"), -4);
        CHECK.due("5: less than the one ahead of it", Check.people(x, "11bdc"), -5);
        CHECK.due("5: its own first", Check.people(x, "11abc"), -3);
        CHECK.due("5: its own between", Check.people(x, "11;11abc"), -7);
        CHECK.due("5: its own last", Check.people(x, "11;11;11abc"), -11);
        CHECK.due("5: ahead of a", Check.people(x, "11`"), -3);
        CHECK.due("5: behind h", Check.people(x, "11i"), -3);
        CHECK.due("5: a digit more", Check.people(x, "111"), -3);
        CHECK.due("5: not a digit", Check.people(x, "/1"), -1);
        CHECK.due("5: not a digit", Check.people(x, "1:"), -2);
        CHECK.due("5: anew in each line", Check.people(x, "11h;11a;11ab"), 3);
        CHECK.due("5: its own, of the fourth", Check.people(x, "11d"), -3);
        CHECK.due("5: not its own, of the fourth", Check.people(x, "11a"), 1);
    }

    /** Promise 5: "76, if it has more and the first 76 could go on or end". */
    private static void peopleSeventySix() {
        String all = "99bcdefgh;99acdefgh;99abdefgh;99abcefgh;99abcdfgh;99abcdegh;99abcdefh;99abcdefg";
        RopeRemembers x = new RopeRemembers();
        for (int length = 77; length <= 79; length++) {
            CHECK.due("5: " + length + " signs", Check.people(x, all.substring(0, length)), -77);
        }
        CHECK.due("5: 80 signs", Check.people(x, all + ";"), -77);
        CHECK.due("5: wrong behind the first 76", Check.people(x, all.substring(0, 76) + "????"), -77);
        CHECK.due("5: wrong among the first 76", Check.people(x, all.substring(0, 75) + "????"), -76);
        String ends = all.substring(0, 75) + ";";
        CHECK.due("5: 76 signs, ended too early", Check.people(x, ends), -77);
        CHECK.due("5: 77 signs, the first 76 could go on no more", Check.people(x, ends + "1"), -77);
        CHECK.due("5: nobody came", x.count(3), 0);
        CHECK.due("5: 76 signs", Check.people(x, all.substring(0, 76)), 8);
        CHECK.due("5: the last one sees a, b, c, d", x.person(7, 2), 15);
    }

    /** Promise 5: "Nothing of it comes, if a LINE can't." */
    private static void peopleNothingComes() {
        RopeRemembers x = Check.made("5", "95");
        x.keep(0);
        x.crossing(1);
        x.mean();
        String before = Check.state(x);
        String[] texts = {"11;1", "11;22;33;", "11;22b;33d", "11;11;11;11;11;11;11;11", "x", "11;x"};
        int[] due = {-5, -10, -10, -22, -1, -4};
        for (int i = 0; i < texts.length; i++) {
            CHECK.due("5: '" + texts[i] + "'", Check.people(x, texts[i]), due[i]);
            CHECK.due("5: the text is empty", x.count(12), 0);
            CHECK.same("5: nothing of it comes", Check.state(x), before);
        }
        CHECK.row("5: the row stays", x, 9, 1);
        CHECK.due("5: kept still", x.again(0), true);
    }

    /** Promise 6: "(an empty one: none)". */
    private static void ruleEmpty() {
        RopeRemembers x = Check.made("0", "53b;82");
        Check.rule(x, "0");
        CHECK.due("6: empty", Check.rule(x, ""), 0);
        CHECK.due("6: (5 + 8 + 1) / 2", x.person(0, 4), 7);
        CHECK.due("6: (8 + 8 + 1) / 2", x.person(1, 4), 8);
        x.show(1);
        CHECK.due("6: less 3", x.person(1, 4), 5);
    }

    /** Promise 6: "likewise (40 signs)". */
    private static void ruleForty() {
        RopeRemembers x = Check.made("0", "53");
        String forty = "((((1+1+1+1+1+1+1+1))))-(((1+1+1))+1+1)";
        CHECK.due("6: length of the text", forty.length(), 39);
        CHECK.due("6: 39 signs", Check.rule(x, forty), 0);
        CHECK.due("6: 8 - 5", x.person(0, 4), 3);
        CHECK.due("6: 40 signs", Check.rule(x, "-" + forty), 0);
        CHECK.due("6: -8 - 5", x.person(0, 4), 0);
        CHECK.due("6: 41 signs", Check.rule(x, "--" + forty), -41);
        CHECK.due("6: 41 signs, could end", Check.rule(x, "-" + forty + "+"), -41);
        CHECK.due("6: 41 signs, wrong there", Check.rule(x, "-" + forty + "("), -41);
        CHECK.due("6: 80 signs", Check.rule(x, Check.many("b+", 40)), -41);
        CHECK.due("6: 80 signs -", Check.rule(x, Check.many("-", 80)), -41);
        CHECK.due("6: 40 signs, ended too early", Check.rule(x, Check.many("-", 40)), -41);
        CHECK.due("6: 40 signs, ended too early", Check.rule(x, Check.many("b+", 20)), -41);
        CHECK.due("6: 41 signs, the 40th wrong", Check.rule(x, Check.many("-", 39) + ")b"), -40);
        CHECK.due("6: 40 things", Check.rule(x, Check.many("b+", 19) + "11"), 0);
        CHECK.due("6: 19 * 5 + 11", x.person(0, 4), 9);
    }

    /** Promise 6: a refused text leaves THE RULE, and nothing of it stays for the next one. */
    private static void ruleRefusedLeavesNothing() {
        RopeRemembers x = Check.made("0", "53");
        Check.rule(x, "7");
        for (int i = 0; i < 12; i++) {
            CHECK.due("6: open brackets", Check.rule(x, "((((1<2"), -8);
            CHECK.due("6: still 7", x.person(0, 4), 7);
        }
        CHECK.due("6: taken behind them", Check.rule(x, "((((2+1<4))))*6"), 0);
        CHECK.due("6: 6", x.person(0, 4), 6);
        CHECK.due("6: a number", Check.rule(x, "1"), 0);
        CHECK.due("6: a letter and a digit", Check.rule(x, "b1"), -2);
        CHECK.due("6: a number too long", Check.rule(x, "1000"), -4);
        CHECK.due("6: a number behind it", Check.rule(x, "123-119"), 0);
        CHECK.due("6: 4", x.person(0, 4), 4);
        CHECK.due("6: a comparison", Check.rule(x, "1<2"), 0);
        CHECK.due("6: another one", Check.rule(x, "b>4"), 0);
        CHECK.due("6: 1", x.person(0, 4), 1);
        for (int i = 0; i < 3; i++) {
            CHECK.due("6: a long one", Check.rule(x, "-b+9---b"), 0);
            CHECK.due("6: -5 + 9 - 5", x.person(0, 4), 0);
            CHECK.due("6: one with - ahead", Check.rule(x, "-b"), 0);
            CHECK.due("6: a short one", Check.rule(x, "b"), 0);
            CHECK.due("6: 5", x.person(0, 4), 5);
            CHECK.due("6: a short one once more", Check.rule(x, "b"), 0);
            CHECK.due("6: 5", x.person(0, 4), 5);
        }
        x.crossing(1);
        CHECK.due("6: rule() can't be undone", Check.rule(x, "9"), 0);
        x.undo();
        CHECK.due("6: still 9", x.person(0, 4), 9);
    }

    /** Promise 7: "NoSuchElementException: none such, another what." */
    private static void furrowBounds() {
        RopeRemembers x = Check.made("1234567890123456", "");
        CHECK.due("7: the last", x.furrow(15, 0), 6);
        CHECK.due("7: the last is of the rope", x.furrow(15, 1), 1);
        x.rope(0, 14);
        CHECK.due("7: the last is not of it", x.furrow(15, 1), 0);
        int[][] wrong = {{16, 0}, {16, 1}, {-1, 0}, {-1, 1}, {0, 2}, {0, -1}, {16, 2}, {Integer.MAX_VALUE, 0},
            {Integer.MIN_VALUE, 0}, {0, Integer.MAX_VALUE}, {0, Integer.MIN_VALUE}};
        for (int[] w : wrong) {
            CHECK.noFurrow("7", x, w[0], w[1]);
        }
    }

    /** Promise 8: "NoSuchElementException: likewise." */
    private static void personBounds() {
        RopeRemembers x = Check.made("0", "53b;82");
        int[][] wrong = {{2, 0}, {2, 5}, {-1, 0}, {0, 6}, {0, -1}, {2, 6}, {8, 0}, {32, 0}, {Integer.MAX_VALUE, 4},
            {Integer.MIN_VALUE, 4}, {0, Integer.MAX_VALUE}, {0, Integer.MIN_VALUE}};
        for (int[] w : wrong) {
            CHECK.noPerson("8", x, w[0], w[1]);
        }
        CHECK.noPerson("8: no people", new RopeRemembers(), 0, 0);
    }

    /** Promise 8: all eight, each seen by each. */
    private static void personOfEight() {
        RopeRemembers x = Check.made("0", "05bcdefgh;15acdefgh;25abdefgh;35abcefgh;45abcdfgh");
        Check.people(x, "55abcdegh;65abcdefh;75abcdefg");
        for (int i = 0; i < 8; i++) {
            CHECK.due("8: belief", x.person(i, 0), i);
            CHECK.due("8: edge", x.person(i, 1), 5);
            CHECK.due("8: sees", x.person(i, 2), 255 - (1 << i));
            CHECK.due("8: in", x.person(i, 3), i >= 5 ? 1 : 0);
            CHECK.due("8: next", x.person(i, 4), (i + (28 - i) / 7 + 1) / 2);
            CHECK.due("8: seen by", x.person(i, 5), 7);
        }
    }

    /** Promise 9: "of n entries f, f + step, .. (..; put to 0 .. 9) ..: those behind it have 0". */
    private static void sheetEntries() {
        RopeRemembers x = Check.made("0", "95;95;95;95;95;95;95;95");
        CHECK.due("9: eight", x.sheet(2, 8, 1, 1), 36);
        CHECK.belief("9: eight", x, "12345678");
        CHECK.due("9: seven", x.sheet(2, 7, 3, 1), 3 + 4 + 5 + 6 + 7 + 8 + 9);
        CHECK.belief("9: one behind it", x, "34567890");
        CHECK.due("9: none", x.sheet(0, 0, 5, 5), 0);
        CHECK.belief("9: none", x, "00000000");
        CHECK.due("9: one", x.sheet(1, 1, 9, 9), 9);
        CHECK.belief("9: one", x, "90000000");
        CHECK.due("9: put to 0 and 9", x.sheet(2, 8, 11, -2), 9 + 9 + 7 + 5 + 3 + 1);
        CHECK.belief("9: put to 0 and 9", x, "99753100");
        CHECK.due("9: more entries than people", Check.made("0", "95").sheet(2, 8, 4, 1), 4);
    }

    /** Promise 9: "of bytes, shorts the lowest bits, with their sign"; ints go on from the least. */
    private static void sheetBits() {
        RopeRemembers x = Check.made("0", "95;95;95");
        x.sheet(0, 3, 254, 1);
        CHECK.belief("9: bytes -2, -1, 0", x, "000");
        x.sheet(0, 3, 256 + 7, 1);
        CHECK.belief("9: bytes 7, 8, 9", x, "789");
        x.sheet(0, 3, 126, 1);
        CHECK.belief("9: bytes 126, 127, -128", x, "990");
        x.sheet(1, 3, 32766, 1);
        CHECK.belief("9: shorts 32766, 32767, -32768", x, "990");
        x.sheet(1, 3, 65534, 3);
        CHECK.belief("9: shorts -2, 1, 4", x, "014");
        x.sheet(1, 3, 255, 1);
        CHECK.belief("9: shorts 255, 256, 257", x, "999");
        x.sheet(2, 3, 65534, 3);
        CHECK.belief("9: ints 65534 and more", x, "999");
        x.sheet(2, 3, Integer.MAX_VALUE, 1);
        CHECK.belief("9: ints from the greatest to the least", x, "900");
        x.sheet(2, 3, Integer.MIN_VALUE, -1);
        CHECK.belief("9: ints from the least to the greatest", x, "099");
        x.sheet(0, 3, Integer.MAX_VALUE, 6);
        CHECK.belief("9: bytes -1, 5, 11", x, "059");
    }

    /** Promise 9: "or a missing one (3)"; "-3: missing (all 0)". */
    private static void sheetMissing() {
        int[] ns = {0, 1, 8, -1, Integer.MIN_VALUE};
        for (int n : ns) {
            RopeRemembers x = Check.made("0", "95;62;33");
            CHECK.due("9: missing, n " + n, x.sheet(3, n, 5, 5), -3);
            CHECK.belief("9: missing, n " + n, x, "000");
        }
        CHECK.due("9: missing, nobody", new RopeRemembers().sheet(3, 0, 0, 0), -3);
    }

    /** Promise 9: "-2: n below 0 (of kinds 0 .. 2; nothing changes)"; "NONE: another kind, n above 8 (these first)". */
    private static void sheetRefused() {
        RopeRemembers x = Check.made("0", "95;62;33");
        String before = Check.state(x);
        for (int kind = 0; kind <= 2; kind++) {
            CHECK.due("9: -1 of kind " + kind, x.sheet(kind, -1, 1, 1), -2);
            CHECK.due("9: least int of kind " + kind, x.sheet(kind, Integer.MIN_VALUE, 1, 1), -2);
        }
        for (int kind = 0; kind <= 3; kind++) {
            CHECK.due("9: 9 of kind " + kind, x.sheet(kind, 9, 1, 1), -1);
            CHECK.due("9: greatest int of kind " + kind, x.sheet(kind, Integer.MAX_VALUE, 1, 1), -1);
        }
        int[] kinds = {-1, 4, Integer.MIN_VALUE, Integer.MAX_VALUE};
        for (int kind : kinds) {
            CHECK.due("9: kind " + kind, x.sheet(kind, 1, 1, 1), -1);
            CHECK.due("9: kind " + kind + " first", x.sheet(kind, -1, 1, 1), -1);
        }
        CHECK.same("9: nothing changes", Check.state(x), before);
    }
}
