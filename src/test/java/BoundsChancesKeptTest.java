/** Boundary cases of promises 41 to 49, in the document's order. */
public final class BoundsChancesKeptTest {
    private static final Check CHECK = new Check("BoundsChancesKeptTest");
    private static final int[] FAR = {Integer.MIN_VALUE, Integer.MAX_VALUE};

    public static void main(String[] args) {
        floodsBounds();
        floodsRefused();
        twiceBounds();
        twiceRefused();
        restsBounds();
        restsRefused();
        lawBounds();
        lawEmpty();
        lawRefused();
        yearsBounds();
        yearsLikeOnes();
        yearsRefused();
        keepBounds();
        againNothingKept();
        againSince();
        countBounds();
        countFull();
        rowBounds();
        callsToTheLast();
        CHECK.finish();
    }

    private static void flood(int n, int k, int p, long upper, long lower) {
        RopeRemembers x = new RopeRemembers();
        CHECK.due("41: " + n + ", " + k + ", " + p, x.floods(n, k, p), 0);
        CHECK.row("41: " + n + ", " + k + ", " + p, x, upper, lower);
    }

    /** Promise 41: "n days (1 .. 12) .. p tenths (0 .. 10) .. k (0 .. 12) or more", "(0 by 1)". */
    private static void floodsBounds() {
        flood(1, 0, 0, 1, 1);
        flood(1, 0, 10, 1, 1);
        flood(1, 1, 0, 0, 1);
        flood(1, 1, 10, 1, 1);
        flood(1, 1, 4, 2, 5);
        flood(1, 2, 10, 0, 1);
        flood(1, 12, 10, 0, 1);
        flood(11, 12, 5, 0, 1);
        flood(12, 12, 0, 0, 1);
        flood(12, 0, 0, 1, 1);
        flood(12, 12, 10, 1, 1);
        flood(12, 12, 5, 1, 4096);
        flood(12, 6, 5, 1255, 2048);
        flood(12, 1, 1, 717570463519L, 1000000000000L);
        flood(11, 5, 7, 9783808489L, 10000000000L);
    }

    /** Promise 41: "NONE: others." */
    private static void floodsRefused() {
        RopeRemembers x = new RopeRemembers();
        x.mean();
        int[][] wrong = {{0, 0, 5}, {-1, 0, 5}, {13, 0, 5}, {1, -1, 5}, {1, 13, 5}, {1, 1, -1}, {1, 1, 11}, {13, 13, 11}};
        for (int[] w : wrong) {
            CHECK.due("41: " + w[0] + ", " + w[1] + ", " + w[2], x.floods(w[0], w[1], w[2]), -1);
        }
        for (int far : FAR) {
            CHECK.due("41: n " + far, x.floods(far, 1, 1), -1);
            CHECK.due("41: k " + far, x.floods(1, far, 1), -1);
            CHECK.due("41: p " + far, x.floods(1, 1, far), -1);
        }
        CHECK.row("41: refused leaves the row", x, 0, 1);
    }

    private static void two(int n, int p, long upper, long lower) {
        RopeRemembers x = new RopeRemembers();
        CHECK.due("42: " + n + ", " + p, x.twice(n, p), 0);
        CHECK.row("42: " + n + ", " + p, x, upper, lower);
    }

    /** Promise 42: "n days (1 .. 12) .. p tenths (0 .. 10)". */
    private static void twiceBounds() {
        two(1, 0, 0, 1);
        two(1, 10, 0, 1);
        two(2, 0, 0, 1);
        two(2, 10, 1, 1);
        two(2, 1, 1, 100);
        two(12, 0, 0, 1);
        two(12, 10, 1, 1);
        two(12, 1, 97038694279L, 1000000000000L);
        two(12, 9, 999992054439L, 1000000000000L);
        two(11, 3, 54001106577L, 100000000000L);
    }

    /** Promise 42: "NONE: others." */
    private static void twiceRefused() {
        RopeRemembers x = new RopeRemembers();
        x.mean();
        int[][] wrong = {{0, 5}, {-1, 5}, {13, 5}, {1, -1}, {1, 11}, {12, 11}, {13, 11}};
        for (int[] w : wrong) {
            CHECK.due("42: " + w[0] + ", " + w[1], x.twice(w[0], w[1]), -1);
        }
        for (int far : FAR) {
            CHECK.due("42: n " + far, x.twice(far, 1), -1);
            CHECK.due("42: p " + far, x.twice(2, far), -1);
        }
        CHECK.row("42: refused leaves the row", x, 0, 1);
    }

    /** Promise 43: "v (0 .. 20)", "f (0 .. 9)"; "the least (x, y ..)". */
    private static void restsBounds() {
        int[][] due = {{0, 0, 10, 0, 0}, {0, 9, 45, 1, 0}, {20, 0, 10, 0, 0}, {20, 9, 1, 9, 9}, {9, 9, 10, 9, 0},
            {9, 0, 11, 0, 0}, {8, 9, 17, 8, 0}, {1, 0, 11, 0, 0}, {5, 5, 30, 5, 0}, {10, 4, 6, 4, 4}};
        RopeRemembers x = new RopeRemembers();
        for (int[] d : due) {
            CHECK.due("43: " + d[0] + ", " + d[1], x.rests(d[0], d[1]), d[2]);
            CHECK.row("43: " + d[0] + ", " + d[1], x, d[3], d[4]);
        }
    }

    /** Promise 43: "NONE: others." */
    private static void restsRefused() {
        RopeRemembers x = new RopeRemembers();
        x.mean();
        int[][] wrong = {{-1, 0}, {21, 0}, {0, -1}, {0, 10}, {21, 10}};
        for (int[] w : wrong) {
            CHECK.due("43: " + w[0] + ", " + w[1], x.rests(w[0], w[1]), -1);
        }
        for (int far : FAR) {
            CHECK.due("43: v " + far, x.rests(far, 0), -1);
            CHECK.due("43: f " + far, x.rests(0, far), -1);
        }
        CHECK.row("43: refused leaves the row", x, 0, 1);
    }

    /** Promise 44: "in 10 CROSSINGS"; "(below 0, too)"; SIGNS count for both. */
    private static void lawBounds() {
        RopeRemembers x = Check.made("0", "95;95;95;95;95;95;95;95");
        Check.rule(x, "0");
        CHECK.due("44: eight more", Check.law(x, "9"), 8);
        CHECK.row("44: eight more", x, 8, 0);
        Check.rule(x, "9");
        CHECK.due("44: eight less", Check.law(x, "0"), -8);
        CHECK.row("44: eight less", x, 0, 8);
        // Behind the tenth crossing, d was 2 in it.
        for (int d = 0; d <= 6; d++) {
            CHECK.due("44: d is " + d, Check.law(x, "9*(d=" + d + ")"), d == 2 ? 0 : -8);
        }
        Check.rule(x, "b-g*9");
        x.show(0);
        CHECK.due("44: signs by the rule", Check.law(x, "b"), 1);
        CHECK.row("44: signs by the rule", x, 8, 7);
        Check.rule(x, "b");
        CHECK.due("44: signs by it", Check.law(x, "b-g*9"), -1);
        CHECK.row("44: signs by it", x, 7, 8);
        x.undo();
        CHECK.due("44: no signs", Check.law(x, "b-g*9"), 0);
        Check.rule(x, "b-g*9");
        CHECK.due("44: no signs", Check.law(x, "b"), 0);
    }

    /** Promise 44: "(an empty one: none)". */
    private static void lawEmpty() {
        RopeRemembers x = Check.made("0", "45;95");
        x.glance(0, 1);
        CHECK.due("44: none for none", x.law(), 0);
        CHECK.row("44: none for none", x, 2, 2);
        Check.rule(x, "b");
        CHECK.due("44: none for b", Check.law(x, ""), 1);
        CHECK.row("44: none for b", x, 2, 1);
        x = new RopeRemembers();
        CHECK.due("44: no people", Check.law(x, "9"), 0);
        CHECK.row("44: no people", x, 0, 0);
    }

    /** Promise 44: "-10000 - p: the sign at p can't stand there (as rule())." */
    private static void lawRefused() {
        RopeRemembers x = Check.made("0", "95");
        Check.rule(x, "7");
        x.mean();
        String before = Check.state(x);
        String[] texts = {"z", "b+", "(b", "(((((b", "1000", "1<2<3", Check.many("-", 40), Check.many("-", 41) + "b",
            Check.many("b+", 40)};
        int[] due = {0, 2, 2, 4, 3, 3, 40, 40, 40};
        for (int i = 0; i < texts.length; i++) {
            CHECK.due("44: '" + texts[i] + "'", Check.law(x, texts[i]), -10000 - due[i]);
            CHECK.due("44: the text is empty", x.count(12), 0);
            CHECK.same("44: refused", Check.state(x), before);
            CHECK.row("44: refused leaves the row", x, 9, 1);
        }
        CHECK.due("44: 40 signs", Check.law(x, Check.many("-", 39) + "9"), -1);
        CHECK.due("44: the rule stays", x.person(0, 4), 7);
    }

    /** Promise 45: "n times (1 .. 60)"; DRAWS from seeds 0, 1, 5 worked out by hand. */
    private static void yearsBounds() {
        RopeRemembers x = Check.made("7", "95");
        CHECK.due("45: a crossing", x.years(0, 1), 1);
        CHECK.row("45: a crossing", x, 9, 7);
        CHECK.due("45: a sign, seen by none yet", x.years(1, 1), 1);
        CHECK.row("45: a sign, seen by none yet", x, 9, 0);
        CHECK.due("45: a sign and a crossing", x.years(1, 2), 1);
        CHECK.row("45: a sign and a crossing", x, 6, 7);
        x = Check.made("7", "95;15");
        CHECK.due("45: a glance and a crossing", x.years(5, 2), 2);
        CHECK.row("45: a glance and a crossing", x, 14, 7);
        Check.rule(x, "b");
        CHECK.due("45: sixty", x.years(0, 60), 1);
        CHECK.row("45: sixty", x, 10, 28);
        CHECK.due("45: a question", x.count(6), 0);
        CHECK.due("45: nobody", new RopeRemembers().years(3, 60), 0);
    }

    /** Promise 45: "(like ones: nothing)". */
    private static void yearsLikeOnes() {
        RopeRemembers x = Check.made("7", "95;15");
        CHECK.due("45: b at b, and a crossing", x.years(3, 2), 1);
        CHECK.row("45: b at b, and a crossing", x, 10, 7);
        x = Check.made("7", "95");
        CHECK.due("45: one alone", x.years(3, 2), 1);
        CHECK.row("45: one alone", x, 9, 7);
    }

    /** Promise 45: "NONE: another n." */
    private static void yearsRefused() {
        RopeRemembers x = Check.made("7", "95");
        x.mean();
        int[] wrong = {0, -1, 61, Integer.MIN_VALUE, Integer.MAX_VALUE};
        for (int n : wrong) {
            CHECK.due("45: " + n, x.years(1, n), -1);
            CHECK.due("45: " + n + ", no people", new RopeRemembers().years(1, n), -1);
        }
        CHECK.row("45: refused leaves the row", x, 9, 1);
    }

    /** Promise 46: "under a number 0 .. 1"; "Refused: others." */
    private static void keepBounds() {
        RopeRemembers x = Check.made("5", "95");
        int[] wrong = {-1, 2, 3, 32, 33, Integer.MIN_VALUE, Integer.MAX_VALUE};
        for (int i : wrong) {
            CHECK.due("46: " + i, x.keep(i), false);
        }
        CHECK.due("46: refused keeps nothing", x.again(0) || x.again(1), false);
        CHECK.due("46: 0", x.keep(0), true);
        x.show(0);
        CHECK.due("46: 1", x.keep(1), true);
        for (int i : wrong) {
            CHECK.due("46: " + i, x.keep(i), false);
        }
        x.crossing(1);
        CHECK.due("47: 0", x.again(0), true);
        CHECK.due("47: no sign", x.count(5), 0);
        CHECK.due("47: 1", x.again(1), true);
        CHECK.due("47: a sign", x.count(5), 1);
        CHECK.due("46: over what was kept", x.keep(0), true);
        x.undo();
        CHECK.due("47: anew", x.again(0), true);
        CHECK.due("47: a sign now", x.count(5), 1);
    }

    /** Promise 47: "Refused: nothing kept". */
    private static void againNothingKept() {
        RopeRemembers x = Check.made("5", "95");
        x.show(0);
        x.keep(1);
        x.crossing(1);
        String before = Check.state(x);
        int[] wrong = {0, -1, 2, 32, 33, Integer.MIN_VALUE, Integer.MAX_VALUE};
        for (int i : wrong) {
            CHECK.due("47: " + i, x.again(i), false);
            CHECK.same("47: refused", Check.state(x), before);
        }
        CHECK.due("47: undone still", x.undo(), 1);
        CHECK.due("47: 1", x.again(1), true);
        CHECK.due("47: 1 once more", x.again(1), true);
        CHECK.due("47: a new object", new RopeRemembers().again(0), false);
    }

    /** Promise 47: "THE FIELD or PEOPLE came since". */
    private static void againSince() {
        RopeRemembers x = Check.made("5", "95");
        x.keep(0);
        x.keep(1);
        Check.rule(x, "4");
        x.sheet(2, 1, 3, 0);
        x.dig(0, 1);
        CHECK.due("47: a rule, a sheet, a dig came since", x.again(0), true);
        CHECK.belief("47: belief", x, "9");
        CHECK.due("47: the rule stays", x.person(0, 4), 4);
        CHECK.due("47: digs stay", x.count(9), 1);
        Check.people(x, "11");
        CHECK.due("47: people came", x.again(0), false);
        CHECK.due("47: people came", x.again(1), false);
        x.keep(0);
        x.keep(1);
        Check.field(x, "5");
        CHECK.due("47: a field came", x.again(0), false);
        CHECK.due("47: a field came", x.again(1), false);
        CHECK.due("47: kept since", x.keep(1), true);
        CHECK.due("47: the other is not", x.again(0), false);
        CHECK.due("47: it is", x.again(1), true);
    }

    /** Promise 48: "NONE for another what." */
    private static void countBounds() {
        RopeRemembers x = Check.made("5", "95");
        int[] wrong = {-1, 15, 16, Integer.MIN_VALUE, Integer.MAX_VALUE};
        for (int what : wrong) {
            CHECK.due("48: " + what, x.count(what), -1);
        }
    }

    /** Promise 48: the most of each. */
    private static void countFull() {
        RopeRemembers x = Check.made("9999999999999999", "99bcdefgh;99acdefgh;99abdefgh;99abcefgh");
        Check.people(x, "99abcdfgh;99abcdegh;99abcdefh;99abcdefg");
        for (int i = 0; i < 8; i++) {
            x.show(i);
        }
        for (int i = 0; i < 12; i++) {
            x.dig(i, 1);
            x.sow(i, 1);
        }
        x.dues(1);
        Check.tell(x, Check.many("1", 80));
        int[] want = {16, 0, 15, 8, 255, 255, 0, 0, 144, 12, 12, 16, 80, 0, 56};
        for (int what = 0; what < want.length; what++) {
            CHECK.due("48: " + what, x.count(what), want[what]);
        }
        x.sheet(2, 0, 0, 0);
        CHECK.due("48: all out", x.count(13), 255);
        CHECK.due("48: nobody in", x.count(4), 0);
    }

    /** Promise 49: "NoSuchElementException: none such." */
    private static void rowBounds() {
        RopeRemembers x = new RopeRemembers();
        CHECK.noRow("49: a new object", x, 0);
        x = Check.made("1111111111111112", "");
        x.dues(17);
        CHECK.due("49: the sixteenth", x.row(15), 2);
        CHECK.noRow("49: a seventeenth", x, 16);
        x.circle();
        CHECK.due("49: one number", x.row(0), 0);
        int[] wrong = {1, 2, 15, -1, Integer.MIN_VALUE, Integer.MAX_VALUE};
        for (int i : wrong) {
            CHECK.noRow("49: of one number", x, i);
        }
        x.unlike();
        CHECK.noRow("49: of none", x, 0);
    }

    /** "An object is used for at most 512 calls": the last ones answer as the first. */
    private static void callsToTheLast() {
        RopeRemembers x = new RopeRemembers();
        for (int i = 0; i < 509; i++) {
            x.crossing(60);
        }
        CHECK.due("512 calls: day", x.count(6), 509 * 60);
        CHECK.due("512 calls: what can be undone", x.undo(), 11);
        CHECK.due("512 calls: day behind it", x.count(6), 508 * 60);
    }
}
