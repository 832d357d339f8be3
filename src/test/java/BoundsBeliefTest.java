/** Boundary cases of promises 17 to 23, in the document's order. */
public final class BoundsBeliefTest {
    private static final Check CHECK = new Check("BoundsBeliefTest");
    private static final int[] FAR = {Integer.MIN_VALUE, Integer.MAX_VALUE};

    public static void main(String[] args) {
        laterBounds();
        laterPaid();
        laterRefused();
        settlesSigns();
        settlesOfEight();
        settlesAtOnce();
        settlesTooLate();
        leavesBounds();
        leavesRefused();
        signsFewest();
        signsCrossings();
        signsOfEight();
        signsNotByAll();
        signsAsItIsNow();
        signsRefused();
        emptiesCrossings();
        emptiesNow();
        emptiesRefused();
        weakestOfEight();
        weakestCrossings();
        weakestNobody();
        meanBounds();
        CHECK.finish();
    }

    private static RopeRemembers made() {
        return Check.made("35204", "95bc;62c;31");
    }

    /** PEOPLE of a text on a DAY, under a rule. */
    private static RopeRemembers onDay(int day, String people, String rule) {
        RopeRemembers x = Check.made("0", people);
        Check.rule(x, "b");
        x.crossing(day);
        Check.rule(x, rule);
        return x;
    }

    /** Promise 17: "in n CROSSINGS (0 .. 99)". */
    private static void laterBounds() {
        RopeRemembers x = onDay(0, "35", "d");
        CHECK.due("17: now", x.later(0), 0);
        CHECK.row("17: now", x, 3, 0);
        CHECK.due("17: in one", x.later(1), 0);
        CHECK.row("17: in one", x, 0, 0);
        CHECK.due("17: in 98", x.later(98), 1);
        CHECK.row("17: in 98", x, 6, 0);
        CHECK.due("17: in 99", x.later(99), 0);
        CHECK.row("17: in 99", x, 0, 0);
        RopeRemembers y = Check.made("5", "90;90;90;90;90;90;90;90");
        CHECK.due("17: all eight", y.later(99), 255);
        CHECK.row("17: all eight", y, 72, 15);
    }

    /** Promise 17: "what is PAID in these", not what was paid ahead. */
    private static void laterPaid() {
        RopeRemembers x = made();
        x.crossing(1);
        CHECK.due("17: none more", x.later(0), 7);
        CHECK.row("17: none more", x, 15, 0);
        CHECK.due("17: one more", x.later(1), 7);
        CHECK.row("17: one more", x, 13, 10);
        CHECK.due("17: paid stays", x.count(7), 14);
    }

    /** Promise 17: "NONE: another n." */
    private static void laterRefused() {
        RopeRemembers x = made();
        x.mean();
        CHECK.due("17: -1", x.later(-1), -1);
        CHECK.due("17: 100", x.later(100), -1);
        for (int n : FAR) {
            CHECK.due("17: " + n, x.later(n), -1);
        }
        CHECK.row("17: refused leaves the row", x, 6, 1);
    }

    /** Promise 18: "SIGNS left aside". */
    private static void settlesSigns() {
        RopeRemembers x = onDay(0, "95", "b-g");
        x.show(0);
        CHECK.due("18: signs left aside", x.settles(), 0);
        CHECK.row("18: signs left aside", x, 7);
        CHECK.due("18: they stay", x.count(5), 1);
        x.crossing(1);
        CHECK.belief("18: they count in a crossing", x, "8");
    }

    /** Promise 18: BELIEFS of all eight, the first one's too. */
    private static void settlesOfEight() {
        String round = "b+1-(b=e)*(e+1)";
        RopeRemembers x = onDay(0, "09;00;00;00;00;00;00;00", round);
        CHECK.due("18: the first goes round in 10", x.settles(), 0);
        CHECK.row("18: the first goes round in 10", x, 70);
        x = onDay(0, "00;00;00;00;00;00;00;09", round);
        CHECK.due("18: the last goes round in 10", x.settles(), 0);
        CHECK.row("18: the last goes round in 10", x, 70);
    }

    /** Promise 18: "(0 on)"; "DAY by 7 (rest)". */
    private static void settlesAtOnce() {
        RopeRemembers x = onDay(0, "95", "b");
        CHECK.due("18: never another", x.settles(), 0);
        CHECK.row("18: days are seven", x, 7);
        x = onDay(0, "95", "9-(d=6)*4");
        CHECK.due("18: on day 0 never so again", x.settles(), 1);
        CHECK.row("18: on day 0 never so again", x, 7);
        x = onDay(0, "55", "9-(d=6)*4");
        CHECK.due("18: so again behind seven", x.settles(), 0);
        CHECK.row("18: so again behind seven", x, 7);
        CHECK.due("18: no people", new RopeRemembers().settles(), 0);
    }

    /** Promise 18: "-2: not in 200 together." */
    private static void settlesTooLate() {
        String rule = "b-(d=0)*((n=0)+(a=0)>0)";
        String people = "90;90a;90b;10c";
        RopeRemembers x = onDay(5, people, rule);
        CHECK.due("18: 199 together", x.settles(), 192);
        CHECK.row("18: 199 together", x, 7);
        x = onDay(4, people, rule);
        CHECK.due("18: 200 together", x.settles(), 193);
        x = onDay(3, people, rule);
        x.mean();
        CHECK.due("18: 201 together", x.settles(), -2);
        CHECK.row("18: no row is told", x, 7, 1);
    }

    /** Promise 19: "In how many CROSSINGS (1 .. 60)"; "-2: not in 60". */
    private static void leavesBounds() {
        RopeRemembers x = onDay(0, "91", "b-(d=0)*9");
        CHECK.due("19: in one", x.leaves(0), 1);
        CHECK.row("19: in one", x, 0);
        x = onDay(4, "91", "b-(d=0)");
        CHECK.due("19: in 60", x.leaves(0), 60);
        CHECK.row("19: in 60", x, 0);
        x = onDay(3, "91", "b-(d=0)");
        x.mean();
        CHECK.due("19: in 61", x.leaves(0), -2);
        CHECK.row("19: no row is told", x, 9, 1);
        x = onDay(0, "11;11;11;11;11;11;11;05", "b+1");
        CHECK.due("19: the eighth comes in", x.leaves(7), 5);
        CHECK.row("19: the eighth comes in", x, 5);
        CHECK.due("19: the seventh stays in", x.leaves(6), -2);
    }

    /** Promise 19: "NONE: none such." */
    private static void leavesRefused() {
        RopeRemembers x = made();
        int[] wrong = {3, 8, 32, -1, Integer.MIN_VALUE, Integer.MAX_VALUE};
        for (int person : wrong) {
            CHECK.due("19: " + person, x.leaves(person), -1);
        }
        CHECK.due("19: no people", new RopeRemembers().leaves(0), -1);
    }

    /** Promise 20: "The fewest .. (bits: of as few the least)", "(besides SIGNS)". */
    private static void signsFewest() {
        // d has the mean of a, b, c: it gets out by a and b together, or by c alone.
        String rule = "(n=0)*(b-g*e)+(n>0)*a";
        RopeRemembers x = onDay(0, "94;94;98;97abc", rule);
        CHECK.due("20: one, though two have lesser bits", x.signs(8, 2), 1);
        CHECK.row("20: one, though two have lesser bits", x, 4);
        CHECK.due("20: nobody at once", x.signs(8, 1), -2);
        x.show(0);
        CHECK.due("20: besides a's", x.signs(8, 2), 1);
        CHECK.row("20: of as few the least", x, 2);
        x.show(1);
        CHECK.due("20: nobody besides", x.signs(8, 2), 0);
        CHECK.row("20: nobody besides", x, 0);
        CHECK.due("20: signs stay", x.count(5), 3);
    }

    /** Promise 20: "behind n CROSSINGS (1 .. 20)": just behind these. */
    private static void signsCrossings() {
        RopeRemembers x = onDay(0, "11", "d");
        for (int n = 1; n <= 20; n++) {
            CHECK.due("20: behind " + n, x.signs(1, n), n % 7 == 1 ? 0 : -2);
        }
        x = onDay(2, "11", "d");
        CHECK.due("20: behind 20", x.signs(1, 20), 0);
        CHECK.row("20: behind 20", x, 0);
        CHECK.due("20: behind 19", x.signs(1, 19), -2);
    }

    /** Promise 20: all eight told, all eight shown. */
    private static void signsOfEight() {
        RopeRemembers x = onDay(0, "95;95;95;95;95;95;95;95", "9-g*9");
        CHECK.due("20: eight", x.signs(255, 1), 8);
        CHECK.row("20: eight", x, 255);
        CHECK.due("20: the last", x.signs(128, 1), 1);
        CHECK.row("20: the last", x, 128);
        CHECK.due("20: nobody told", x.signs(0, 20), 0);
        CHECK.row("20: nobody told", x, 0);
    }

    /** Promise 20: "-2: not by all". */
    private static void signsNotByAll() {
        RopeRemembers x = onDay(0, "95;95", "9");
        x.mean();
        CHECK.due("20: not by all", x.signs(1, 1), -2);
        CHECK.row("20: no row is told", x, 9, 1);
        CHECK.due("20: those told alone count", Check.made("0", "90;09").signs(2, 1), 0);
    }

    /** Promise 20: by BELIEF as it is now, not as a question asked ahead of it left it. */
    private static void signsAsItIsNow() {
        RopeRemembers x = onDay(0, "66", "9");
        x.later(1);
        Check.rule(x, "b-g*3");
        CHECK.due("20: a sign moves it", x.signs(1, 1), 1);
        CHECK.row("20: a sign moves it", x, 1);
        CHECK.due("21: a sign moves it", x.empties(1), 1);
    }

    /** Promise 20: "NONE: others." */
    private static void signsRefused() {
        RopeRemembers x = made();
        x.mean();
        int[] those = {8, 9, 256, -1, Integer.MIN_VALUE, Integer.MAX_VALUE};
        for (int set : those) {
            CHECK.due("20: those " + set, x.signs(set, 1), -1);
        }
        int[] ns = {0, -1, 21, Integer.MIN_VALUE, Integer.MAX_VALUE};
        for (int n : ns) {
            CHECK.due("20: n " + n, x.signs(1, n), -1);
            CHECK.due("20: n " + n + ", nobody told", x.signs(0, n), -1);
        }
        CHECK.row("20: refused leaves the row", x, 6, 1);
        CHECK.due("20: no people", new RopeRemembers().signs(1, 1), -1);
        CHECK.due("20: no people, nobody told", new RopeRemembers().signs(0, 20), 0);
        CHECK.due("20: a ninth of eight", Check.made("0", "11;11;11;11;11;11;11;11").signs(256, 1), -1);
    }

    /** Promise 21: "behind some of the next n CROSSINGS (1 .. 20)". */
    private static void emptiesCrossings() {
        RopeRemembers x = onDay(2, "31", "b-(d=0)");
        CHECK.due("21: in 20", x.empties(20), 0);
        CHECK.row("21: in 20", x, 0);
        CHECK.due("21: in 19", x.empties(19), -2);
        CHECK.row("21: no row is told", x, 0);
        x = onDay(1, "11", "d");
        for (int n = 1; n <= 20; n++) {
            CHECK.due("21: in " + n, x.empties(n), n >= 7 ? 0 : -2);
        }
        x = onDay(0, "95;95;95;95;95;95;95;95", "9-g*9");
        CHECK.due("21: eight, in again later", x.empties(20), 8);
        CHECK.row("21: eight, in again later", x, 255);
        x.show(7);
        CHECK.due("21: besides the eighth", x.empties(20), 7);
        CHECK.row("21: besides the eighth", x, 127);
    }

    /** Promise 21: "behind some of the next": now does not count. */
    private static void emptiesNow() {
        RopeRemembers x = onDay(0, "05", "9");
        CHECK.due("21: empty now alone", x.empties(20), -2);
        x = new RopeRemembers();
        CHECK.due("21: no people", x.empties(1), 0);
        CHECK.row("21: no people", x, 0);
    }

    /** Promise 21: "NONE: another n." */
    private static void emptiesRefused() {
        RopeRemembers x = made();
        x.mean();
        int[] ns = {0, -1, 21, Integer.MIN_VALUE, Integer.MAX_VALUE};
        for (int n : ns) {
            CHECK.due("21: " + n, x.empties(n), -1);
            CHECK.due("21: " + n + ", no people", new RopeRemembers().empties(n), -1);
        }
        CHECK.row("21: refused leaves the row", x, 6, 1);
    }

    /** Promise 22: "of equal ones the first"; all eight stay IN. */
    private static void weakestOfEight() {
        RopeRemembers x = onDay(0, "95;95;95;95;95;95;95;95", "9");
        CHECK.due("22: eight stay", x.weakest(1), 0);
        CHECK.row("22: eight stay", x, 8, 8);
        x.show(0);
        CHECK.due("22: the first without a sign", x.weakest(20), 1);
        CHECK.row("22: the first without a sign", x, 8, 8);
        x = onDay(0, "90;90;90;90;90;90;90;95", "9-g*9");
        CHECK.due("22: the last", x.weakest(1), 7);
        CHECK.row("22: the last", x, 7, 8);
    }

    /** Promise 22: "behind n CROSSINGS (1 .. 20)"; "NONE: another n." */
    private static void weakestCrossings() {
        RopeRemembers x = onDay(2, "31", "b-(d=0)-g");
        CHECK.due("22: behind 19", x.weakest(19), 0);
        CHECK.row("22: behind 19", x, 0, 1);
        CHECK.due("22: behind 20", x.weakest(20), 0);
        CHECK.row("22: behind 20", x, 0, 0);
        CHECK.due("22: behind 12", x.weakest(12), 0);
        CHECK.row("22: behind 12", x, 1, 1);
        int[] ns = {0, -1, 21, Integer.MIN_VALUE, Integer.MAX_VALUE};
        for (int n : ns) {
            CHECK.due("22: " + n, x.weakest(n), -1);
            CHECK.due("22: " + n + ", no people", new RopeRemembers().weakest(n), -1);
        }
        CHECK.row("22: refused leaves the row", x, 1, 1);
    }

    /** Promise 22: "-2: there is nobody". */
    private static void weakestNobody() {
        RopeRemembers x = Check.made("0", "95;95");
        x.mean();
        x.show(1);
        CHECK.due("22: the only one", x.weakest(1), 0);
        CHECK.row("22: both by signs", x, 2, 2);
        x.show(0);
        CHECK.due("22: all see a sign", x.weakest(1), -2);
        CHECK.row("22: no row is told", x, 2, 2);
        CHECK.due("22: no people", new RopeRemembers().weakest(1), -2);
    }

    /** Promise 23: "as a fraction (0 by 1 without)", in lowest terms. */
    private static void meanBounds() {
        RopeRemembers x = new RopeRemembers();
        CHECK.due("23: no people", x.mean(), 0);
        CHECK.row("23: no people", x, 0, 1);
        x = Check.made("0", "01;89");
        CHECK.due("23: nobody in", x.mean(), 0);
        CHECK.row("23: nobody in", x, 0, 1);
        x = Check.made("0", "99;99;99;99;99;99;99;99");
        CHECK.due("23: the most", x.mean(), 8);
        CHECK.row("23: the most", x, 9, 1);
        x = Check.made("0", "00;00;00;00;00;00;00;10");
        CHECK.due("23: the eighth alone", x.mean(), 8);
        CHECK.row("23: the eighth alone", x, 1, 8);
        x = Check.made("0", "00;00;00");
        CHECK.due("23: 0 of three", x.mean(), 3);
        CHECK.row("23: 0 of three", x, 0, 1);
        x = Check.made("0", "20;20;20;00;00;00;09");
        CHECK.due("23: 6 by 6", x.mean(), 6);
        CHECK.row("23: 6 by 6", x, 1, 1);
    }
}
