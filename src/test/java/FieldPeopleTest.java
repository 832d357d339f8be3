/** Promises 1 to 9. */
public final class FieldPeopleTest {
    private static final Check CHECK = new Check("FieldPeopleTest");

    public static void main(String[] args) {
        newObject();
        signs();
        ends();
        fields();
        fieldForgets();
        peopleCome();
        peopleRefused();
        peopleLong();
        ruleValues();
        ruleThings();
        ruleRefused();
        ruleLong();
        furrows();
        persons();
        sheets();
        sheetsRefused();
        CHECK.finish();
    }

    private static void newObject() {
        RopeRemembers x = new RopeRemembers();
        CHECK.due("NONE", RopeRemembers.NONE, -1);
        CHECK.due("1: furrows", x.count(0), 1);
        for (int what = 1; what <= 14; what++) {
            CHECK.due("1: count(" + what + ")", x.count(what), 0);
        }
        CHECK.due("1: corn", x.furrow(0, 0), 0);
        CHECK.due("1: of the rope", x.furrow(0, 1), 1);
        CHECK.noFurrow("1", x, 1, 0);
        CHECK.noPerson("1", x, 0, 0);
        CHECK.row("1", x);
        CHECK.due("1: undo", x.undo(), -1);
        CHECK.due("1: again", x.again(0), false);
    }

    private static void signs() {
        RopeRemembers x = new RopeRemembers();
        for (int i = 1; i <= 20; i++) {
            CHECK.due("2: sign", x.sign(0x31323334), 4 * i);
        }
        CHECK.due("2: 84 signs", x.sign(0), -1);
        CHECK.due("2: still 80", x.count(12), 80);
        CHECK.due("2: cut to 77", x.end(77), true);
        CHECK.due("2: 81 signs", x.sign(0), -1);
        CHECK.due("2: cut to 4", x.end(4), true);
        CHECK.due("2: highest byte first", x.field(), 4);
        CHECK.corn("2", x, "1234");
        x.sign(0xB1313131);
        CHECK.due("2: bytes have no sign", x.field(), -1);
    }

    private static void ends() {
        RopeRemembers x = new RopeRemembers();
        CHECK.due("3: end(0) of nothing", x.end(0), true);
        CHECK.due("3: end(1) of nothing", x.end(1), false);
        x.sign(0x31323334);
        CHECK.due("3: below 0", x.end(-1), false);
        CHECK.due("3: least int", x.end(Integer.MIN_VALUE), false);
        CHECK.due("3: too many", x.end(5), false);
        CHECK.due("3: not cut", x.count(12), 4);
        CHECK.due("3: all", x.end(4), true);
        CHECK.due("3: two", x.end(2), true);
        CHECK.due("3: two signs", x.count(12), 2);
        CHECK.due("3: not back", x.end(3), false);
        CHECK.due("3: field", x.field(), 2);
        CHECK.corn("3", x, "12");
    }

    private static void fields() {
        RopeRemembers x = new RopeRemembers();
        CHECK.due("4: sixteen", Check.field(x, "0123456789012345"), 16);
        CHECK.due("4: text is empty", x.count(12), 0);
        CHECK.due("4: left", x.count(1), 0);
        CHECK.due("4: right", x.count(2), 15);
        CHECK.corn("4", x, "0123456789012345");
        CHECK.due("4: none", Check.field(x, ""), -1);
        CHECK.due("4: seventeen", Check.field(x, "01234567890123456"), -17);
        CHECK.due("4: text is empty, refused", x.count(12), 0);
        CHECK.due("4: first wrong sign", Check.field(x, "12/45678901234567"), -3);
        CHECK.due("4: wrong sign", Check.field(x, ":"), -1);
        CHECK.due("4: wrong behind", Check.field(x, "1a"), -2);
        CHECK.due("4: refused changes nothing", x.count(0), 16);
        CHECK.due("4: one", Check.field(x, "7"), 1);
        CHECK.corn("4", x, "7");
        CHECK.due("4: right of one", x.count(2), 0);
    }

    private static void fieldForgets() {
        RopeRemembers x = Check.made("123", "95");
        Check.rule(x, "b");
        x.crossing(2);
        x.rope(1, 1);
        x.show(0);
        x.dig(0, 1);
        x.keep(0);
        CHECK.due("4: refused", Check.field(x, "x"), -1);
        CHECK.due("4: refused leaves digs", x.count(9), 1);
        CHECK.due("4: refused leaves undo", x.count(10), 3);
        CHECK.due("4: refused leaves the rope", x.count(1), 1);
        CHECK.due("4: anew", Check.field(x, "45"), 2);
        CHECK.due("4: left", x.count(1), 0);
        CHECK.due("4: right", x.count(2), 1);
        CHECK.due("4: digs", x.count(9), 0);
        CHECK.due("4: undo", x.count(10), 0);
        CHECK.due("4: kept", x.again(0), false);
        CHECK.due("4: people stay", x.count(3), 1);
        CHECK.due("4: signs stay", x.count(5), 1);
        CHECK.due("4: day stays", x.count(6), 2);
        CHECK.due("4: paid stays", x.count(7), 9);
    }

    private static void peopleCome() {
        RopeRemembers x = new RopeRemembers();
        CHECK.due("5: empty", Check.people(x, ""), 0);
        CHECK.due("5: two", Check.people(x, "95bch;00a"), 2);
        CHECK.due("5: text is empty", x.count(12), 0);
        CHECK.due("5: people", x.count(3), 2);
        CHECK.due("5: those who are there", x.person(0, 2), 2);
        CHECK.due("5: belief", x.person(0, 0), 9);
        CHECK.due("5: edge", x.person(0, 1), 5);
        CHECK.due("5: sees", x.person(1, 2), 1);
        CHECK.due("5: glances", x.count(14), 2);
        CHECK.due("5: one more", Check.people(x, "12b"), 1);
        CHECK.due("5: seen now", x.person(0, 2), 6);
        CHECK.due("5: third sees", x.person(2, 2), 2);
        CHECK.due("5: five more", Check.people(x, "11;22;33;44;55"), 5);
        CHECK.due("5: h is there", x.person(0, 2), 128 + 6);
        CHECK.due("5: full", Check.people(x, "11"), -1);
        CHECK.due("5: full, a wrong sign", Check.people(x, "x"), -1);
        CHECK.due("5: empty one", Check.people(x, ""), 0);
        CHECK.due("5: eight", x.count(3), 8);
    }

    private static void peopleRefused() {
        RopeRemembers x = new RopeRemembers();
        String[] texts = {"x", "1", "1x", "11;", ";", "11;;", "11a", "11i", "11bb", "11cb", "11;11b", "11;11aa",
            "11 ", "11bcdefgh;", "11bcdefghi", "11;1", "11A", "11b1", "1b"};
        int[] due = {-1, -2, -2, -4, -1, -4, -3, -3, -4, -4, -6, -7,
            -3, -11, -10, -5, -3, -4, -2};
        for (int i = 0; i < texts.length; i++) {
            CHECK.due("5: '" + texts[i] + "'", Check.people(x, texts[i]), due[i]);
            CHECK.due("5: nothing of it comes", x.count(3), 0);
            CHECK.due("5: text is empty", x.count(12), 0);
        }
        Check.people(x, "11");
        CHECK.due("5: own letter of the second", Check.people(x, "11b"), -3);
        CHECK.due("5: a of the second", Check.people(x, "11a"), 1);
        CHECK.due("5: room for six", Check.people(x, "11;11;11;11;11;11;11"), -19);
        CHECK.due("5: end where there is no room", Check.people(x, "11;11;11;11;11;11;"), -19);
        CHECK.due("5: none came", x.count(3), 2);
    }

    private static void peopleLong() {
        String all = "99bcdefgh;99acdefgh;99abdefgh;99abcefgh;99abcdfgh;99abcdegh;99abcdefh;99abcdefg";
        RopeRemembers x = new RopeRemembers();
        CHECK.due("5: 79 signs", Check.people(x, all), -77);
        CHECK.due("5: 77 signs", Check.people(x, all.substring(0, 77)), -77);
        CHECK.due("5: wrong ahead of 76", Check.people(x, all.substring(0, 75) + "x" + "aaa"), -76);
        CHECK.due("5: wrong at 76", Check.people(x, all.substring(0, 76) + "x"), -77);
        CHECK.due("5: none yet", x.count(3), 0);
        CHECK.due("5: 76 signs", Check.people(x, all.substring(0, 76)), 8);
        CHECK.due("5: glances", x.count(14), 7 * 7 + 4);
    }

    private static void value(String rule, int want) {
        RopeRemembers x = Check.made("0", "53");
        CHECK.due("6: " + rule, Check.rule(x, rule), 0);
        CHECK.due("6: " + rule, x.person(0, 4), want);
    }

    private static void ruleValues() {
        value("1+2*3", 7);
        value("(1+2)*3", 9);
        value("7-2-1", 4);
        value("8/2/2", 2);
        value("2*7/4", 3);
        value("7/4*2", 2);
        value("7/0", 0);
        value("1+7/(3-3)", 1);
        value("5+-7/2", 2);
        value("5+(0-7)/2", 2);
        value("5+7/-2", 2);
        value("--5", 5);
        value("---5+9", 4);
        value("9--4", 9);
        value("9+-4", 5);
        value("2*-3+9", 3);
        value("-2*-3", 6);
        value("-2+5", 3);
        value("-(2+1)+9", 6);
        value("1<2", 1);
        value("2<1", 0);
        value("2<2", 0);
        value("2>1", 1);
        value("2>2", 0);
        value("2=2", 1);
        value("1=2", 0);
        value("1+1=2", 1);
        value("2=1+1", 1);
        value("3-1<2+1", 1);
        value("(1<2)<3", 1);
        value("5<(1<2)", 0);
        value("5-(1<2)*3", 2);
        value("(1<2)+(3>2)+(4=4)", 3);
        value("((((7))))", 7);
        value("(1)+(2)+(3)+(((2)))", 8);
        value("007", 7);
        value("9", 9);
        value("10", 9);
        value("999", 9);
        value("0-1", 0);
        value("999*999*999*999<0", 1);
        value("999*999*999*999/999*999=999*999*999", 0);
        value("", 5);
    }

    private static void ruleThings() {
        RopeRemembers x = Check.made("0", "73bcd;30;89;23ef");
        thing(x, "b", 7, 3, 8, 2);
        thing(x, "a", 4, 3, 8, 2);
        thing(x, "n", 3, 0, 0, 0);
        thing(x, "x", 2, 0, 0, 0);
        thing(x, "e", 3, 0, 9, 3);
        thing(x, "d", 0, 0, 0, 0);
        thing(x, "g", 0, 0, 0, 0);
        x.show(2);
        thing(x, "g", 0, 0, 1, 0);
        thing(x, "", 6, 3, 5, 2);
        Check.rule(x, "b");
        x.crossing(6);
        thing(x, "d", 6, 6, 6, 6);
        thing(x, "g", 0, 0, 0, 0);
        Check.rule(x, "b");
        x.crossing(1);
        thing(x, "d", 0, 0, 0, 0);
        Check.rule(x, "b");
        x.crossing(3);
        thing(x, "d", 3, 3, 3, 3);
        CHECK.due("6: refused leaves the rule", Check.rule(x, "b+"), -3);
        CHECK.due("6: still d", x.person(0, 4), 3);
        CHECK.due("6: rule does not forget", x.count(10), 4);
    }

    private static void thing(RopeRemembers x, String rule, int... want) {
        CHECK.due("6: rule " + rule, Check.rule(x, rule), 0);
        for (int i = 0; i < want.length; i++) {
            CHECK.due("6: " + rule + " of " + i, x.person(i, 4), want[i]);
        }
    }

    private static void ruleRefused() {
        RopeRemembers x = new RopeRemembers();
        String[] rules = {"z", "+", "*1", "b+", "b b", "bb", "b1", "1b", "1000", "b<n<n", "b<n=n", "(b", "(", "()", ")",
            "b)", "(b))", "(((((b", "((((b)))))", "b**b", "b-*b", "b<", "<b", "b=+1", "(b<n<e)", "b<(n<e)<b", "-",
            "b(", "1(", "~b", "b~", "B", "12+1234", "(1)2", "b\0"};
        int[] due = {-1, -1, -1, -3, -2, -2, -2, -2, -4, -4, -4, -3, -2, -2, -1,
            -2, -4, -5, -10, -3, -3, -3, -1, -3, -5, -8, -2,
            -2, -2, -1, -2, -1, -7, -4, -2};
        for (int i = 0; i < rules.length; i++) {
            CHECK.due("6: '" + rules[i] + "'", Check.rule(x, rules[i]), due[i]);
            CHECK.due("6: text is empty", x.count(12), 0);
            CHECK.due("44: '" + rules[i] + "'", Check.law(x, rules[i]), due[i] - 9999);
        }
    }

    private static void ruleLong() {
        RopeRemembers x = Check.made("0", "53");
        String nineteen = "b-b+b-b+b-b+b-b+b-b";
        String thirtyNine = nineteen + "+" + nineteen;
        CHECK.due("6: 39 signs", Check.rule(x, thirtyNine), 0);
        CHECK.due("6: 40 signs", Check.rule(x, thirtyNine.substring(0, 38) + "12"), 0);
        CHECK.due("6: 40 signs, a digit more", Check.rule(x, thirtyNine.substring(0, 38) + "123"), -41);
        CHECK.due("6: 40 signs ending too early", Check.rule(x, thirtyNine + "+"), -41);
        CHECK.due("6: 41 signs", Check.rule(x, thirtyNine + "+b"), -41);
        CHECK.due("6: 41 signs, wrong before", Check.rule(x, thirtyNine + "bb"), -40);
        CHECK.due("6: 80 signs, wrong early", Check.rule(x, "bb" + thirtyNine + thirtyNine), -2);
        CHECK.due("6: 39 times - ahead", Check.rule(x, "---------------------------------------b"), 0);
        CHECK.due("6: below 0", x.person(0, 4), 0);
        CHECK.due("6: 38 times - ahead", Check.rule(x, "--------------------------------------b"), 0);
        CHECK.due("6: itself", x.person(0, 4), 5);
    }

    private static void furrows() {
        RopeRemembers x = Check.made("352", "95");
        x.rope(1, 1);
        CHECK.due("7: corn", x.furrow(1, 0), 5);
        CHECK.due("7: left of the rope", x.furrow(0, 1), 0);
        CHECK.due("7: of the rope", x.furrow(1, 1), 1);
        CHECK.due("7: right of the rope", x.furrow(2, 1), 0);
        CHECK.noFurrow("7", x, 3, 0);
        CHECK.noFurrow("7", x, -1, 0);
        CHECK.noFurrow("7", x, 0, 2);
        CHECK.noFurrow("7", x, 0, -1);
        CHECK.noFurrow("7", x, Integer.MIN_VALUE, Integer.MAX_VALUE);
    }

    private static void persons() {
        RopeRemembers x = Check.made("352", "95bc;62c;33;12ac");
        CHECK.due("8: belief", x.person(1, 0), 6);
        CHECK.due("8: edge", x.person(1, 1), 2);
        CHECK.due("8: sees", x.person(0, 2), 6);
        CHECK.due("8: in at the edge", x.person(2, 3), 1);
        CHECK.due("8: out", x.person(3, 3), 0);
        CHECK.due("8: next", x.person(0, 4), 7);
        CHECK.due("8: next of one who sees nobody", x.person(2, 4), 3);
        CHECK.due("8: seen by three", x.person(2, 5), 3);
        CHECK.due("8: seen by nobody", x.person(3, 5), 0);
        x.show(2);
        CHECK.due("8: next by a sign", x.person(2, 4), 0);
        CHECK.noPerson("8", x, 4, 0);
        CHECK.noPerson("8", x, -1, 0);
        CHECK.noPerson("8", x, 0, 6);
        CHECK.noPerson("8", x, 0, -1);
    }

    private static void sheets() {
        RopeRemembers x = Check.made("0", "95;62;33");
        CHECK.due("9: ints", x.sheet(2, 3, 1, 2), 9);
        CHECK.belief("9: ints", x, "135");
        CHECK.due("9: put to 9", x.sheet(2, 2, 5, 9), 14);
        CHECK.belief("9: those behind", x, "590");
        CHECK.due("9: put to 0", x.sheet(2, 3, -1, 3), 7);
        CHECK.belief("9: put to 0", x, "025");
        CHECK.due("9: bytes", x.sheet(0, 3, 260, 1), 15);
        CHECK.belief("9: bytes", x, "456");
        CHECK.due("9: bytes have a sign", x.sheet(0, 3, 127, 1), 9);
        CHECK.belief("9: bytes have a sign", x, "900");
        CHECK.due("9: shorts", x.sheet(1, 3, 65536 + 3, 256), 3 + 9 + 9);
        CHECK.due("9: shorts have a sign", x.sheet(1, 2, 32767, 1), 9);
        CHECK.due("9: ints wrap", x.sheet(2, 2, Integer.MAX_VALUE, 1), 9);
        CHECK.due("9: more than people", x.sheet(2, 8, 1, 1), 6);
        CHECK.due("9: no entry", x.sheet(2, 0, 7, 7), 0);
        CHECK.belief("9: no entry", x, "000");
        x.sheet(2, 3, 4, 0);
        CHECK.due("9: missing", x.sheet(3, 5, 7, 7), -3);
        CHECK.belief("9: missing", x, "000");
        x.sheet(2, 3, 4, 0);
        CHECK.due("9: missing of less than none", x.sheet(3, -5, 7, 7), -3);
        CHECK.belief("9: missing", x, "000");
        CHECK.due("9: not undone", x.count(10), 0);
        CHECK.due("9: nobody", new RopeRemembers().sheet(2, 8, 5, 5), 0);
    }

    private static void sheetsRefused() {
        RopeRemembers x = Check.made("0", "95;62;33");
        CHECK.due("9: below 0", x.sheet(0, -1, 1, 1), -2);
        CHECK.due("9: below 0", x.sheet(2, Integer.MIN_VALUE, 1, 1), -2);
        CHECK.due("9: another kind", x.sheet(4, 1, 1, 1), -1);
        CHECK.due("9: another kind", x.sheet(-1, 1, 1, 1), -1);
        CHECK.due("9: another kind first", x.sheet(4, -1, 1, 1), -1);
        CHECK.due("9: above 8", x.sheet(0, 9, 1, 1), -1);
        CHECK.due("9: above 8 first", x.sheet(3, 9, 1, 1), -1);
        CHECK.belief("9: nothing changes", x, "963");
    }
}
