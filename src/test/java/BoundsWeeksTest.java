/** Boundary cases of promises 10 to 16, in the document's order. */
public final class BoundsWeeksTest {
    private static final Check CHECK = new Check("BoundsWeeksTest");

    public static void main(String[] args) {
        crossingNone();
        crossingSixty();
        crossingRefused();
        crossingNobodyIn();
        crossingOfEight();
        showAlready();
        showRefused();
        glanceBack();
        glanceRefused();
        ropeBounds();
        ropeRefused();
        sowBounds();
        weekEmpty();
        weekRope();
        weekStops();
        weekGlances();
        weekSixty();
        weekRefused();
        undoEach();
        undoNothingDone();
        undoTwelve();
        undoLeavesTheRest();
        undoForgotten();
        CHECK.finish();
    }

    private static RopeRemembers made() {
        return Check.made("35204", "95bc;62c;31");
    }

    /** Promise 10: "n CROSSINGS (0 .. 60)": none at all. */
    private static void crossingNone() {
        RopeRemembers x = made();
        x.show(0);
        String before = Check.state(x);
        CHECK.due("10: none", x.crossing(0), 3);
        CHECK.row("10: none", x, 0, 0);
        CHECK.same("10: none leaves all, signs and day too", Check.state(x), before);
    }

    /** Promise 10: "n CROSSINGS (0 .. 60)": the most. */
    private static void crossingSixty() {
        RopeRemembers x = Check.made("9", "50");
        Check.rule(x, "9-b");
        CHECK.due("10: sixty", x.crossing(60), 1);
        CHECK.due("10: day", x.count(6), 60);
        CHECK.row("10: 9 + 8 + .. + 1", x, 45, 0);
        x = Check.made("9", "95");
        Check.rule(x, "9-b");
        CHECK.due("10: sixty, out and in", x.crossing(60), 1);
        CHECK.row("10: every one changes", x, 45, 60);
        CHECK.due("10: sixty more", x.crossing(60), 1);
        CHECK.row("10: paid by these alone", x, 0, 60);
        CHECK.due("10: paid", x.count(7), 45);
    }

    /** Promise 10: "Refused: another n." */
    private static void crossingRefused() {
        RopeRemembers x = made();
        x.crossing(1);
        x.show(1);
        String before = Check.state(x);
        int[] wrong = {-1, 61, Integer.MIN_VALUE, Integer.MAX_VALUE};
        for (int n : wrong) {
            CHECK.due("10: " + n, x.crossing(n), -1);
            CHECK.same("10: refused", Check.state(x), before);
            CHECK.row("10: refused leaves the row", x, 14, 0);
        }
    }

    /** Terms, A CROSSING: "if somebody is IN" of (1) and (2); (3) and (4) always. */
    private static void crossingNobodyIn() {
        RopeRemembers x = Check.made("0599", "45");
        x.rope(1, 2);
        x.show(0);
        Check.rule(x, "b+g");
        CHECK.due("10: nobody was in, one is then", x.crossing(1), 1);
        CHECK.row("10: nothing is paid", x, 0, 1);
        CHECK.corn("10: the rope's corn stays", x, "1599");
        CHECK.due("10: signs are none", x.count(5), 0);
        CHECK.due("10: day", x.count(6), 1);
        CHECK.due("10: somebody is in", x.crossing(1), 1);
        CHECK.row("10: paid", x, 14, 0);
        CHECK.corn("10: parted", x, "2489");
        Check.rule(x, "0");
        CHECK.due("10: the last gets out behind it", x.crossing(1), 0);
        CHECK.row("10: paid still", x, 12, 1);
        CHECK.due("10: no people", Check.made("5", "").crossing(60), 0);
    }

    /** Promise 10: all eight change at once. */
    private static void crossingOfEight() {
        RopeRemembers x = Check.made("1111111111111111", "95;95;95;95;95;95;95;95");
        Check.rule(x, "0");
        CHECK.due("10: eight get out", x.crossing(3), 0);
        CHECK.row("10: eight get out", x, 16, 8);
        CHECK.belief("10: eight", x, "00000000");
    }

    /** Promise 11: "-2: it does already". */
    private static void showAlready() {
        RopeRemembers x = Check.made("0", "11;11;11;11;11;11;11;11");
        int bits = 0;
        for (int i = 7; i >= 0; i--) {
            bits |= 1 << i;
            CHECK.due("11: " + i, x.show(i), bits);
        }
        String before = Check.state(x);
        for (int i = 0; i < 8; i++) {
            CHECK.due("11: " + i + " already", x.show(i), -2);
        }
        CHECK.same("11: already changes nothing", Check.state(x), before);
        x.crossing(1);
        CHECK.due("11: behind a crossing anew", x.show(7), 128);
    }

    /** Promise 11: "NONE: none such". */
    private static void showRefused() {
        RopeRemembers x = made();
        x.show(1);
        String before = Check.state(x);
        int[] wrong = {3, 7, 8, 31, 32, 33, -1, -31, Integer.MAX_VALUE, Integer.MIN_VALUE};
        for (int person : wrong) {
            CHECK.due("11: " + person, x.show(person), -1);
        }
        CHECK.same("11: refused", Check.state(x), before);
        CHECK.due("11: no people", new RopeRemembers().show(0), -1);
    }

    /** Promise 12: "(sees it), or away, if it sees it", to all seven others and back. */
    private static void glanceBack() {
        RopeRemembers x = Check.made("0", "11;11;11;11;11;11;11;11");
        for (int i = 0; i < 7; i++) {
            CHECK.due("12: turns to " + i, x.glance(7, i), i + 1);
        }
        CHECK.due("12: sees all", x.person(7, 2), 127);
        CHECK.due("12: glances", x.count(14), 7);
        for (int i = 0; i < 7; i++) {
            CHECK.due("12: turns away from " + i, x.glance(7, i), 6 - i);
        }
        CHECK.due("12: sees nobody", x.person(7, 2), 0);
        CHECK.due("12: first to last", x.glance(0, 7), 1);
        CHECK.due("12: the other does not see it", x.person(7, 2), 0);
    }

    /** Promise 12: "NONE: none such, like ones." */
    private static void glanceRefused() {
        RopeRemembers x = Check.made("0", "11bch;11;11");
        String before = Check.state(x);
        int[][] wrong = {{0, 0}, {2, 2}, {0, 3}, {0, 7}, {3, 0}, {3, 3}, {-1, 0}, {0, -1}, {-1, -1}, {32, 0}, {0, 33},
            {Integer.MIN_VALUE, 1}, {1, Integer.MAX_VALUE}};
        for (int[] w : wrong) {
            CHECK.due("12: " + w[0] + " to " + w[1], x.glance(w[0], w[1]), -1);
        }
        CHECK.same("12: refused", Check.state(x), before);
        CHECK.due("12: no people", new RopeRemembers().glance(0, 1), -1);
    }

    /** Promise 13: from the first to the last FURROW, and just one. */
    private static void ropeBounds() {
        RopeRemembers x = Check.made("1234567890123456", "");
        CHECK.due("13: all", x.rope(0, 15), 16);
        CHECK.due("13: the last", x.rope(15, 15), 1);
        CHECK.due("13: corn of the last", x.count(8), 6);
        CHECK.due("13: the first", x.rope(0, 0), 1);
        CHECK.due("13: corn of the first", x.count(8), 1);
        CHECK.due("13: one of one", new RopeRemembers().rope(0, 0), 1);
    }

    /** Promise 13: "-2: the first is more than the second; NONE: none such." */
    private static void ropeRefused() {
        RopeRemembers x = made();
        x.rope(1, 3);
        String before = Check.state(x);
        CHECK.due("13: 2 to 1", x.rope(2, 1), -2);
        CHECK.due("13: 4 to 0", x.rope(4, 0), -2);
        int[][] wrong = {{0, 5}, {5, 5}, {-1, 0}, {-1, -1}, {5, 0}, {0, -1}, {Integer.MIN_VALUE, Integer.MAX_VALUE},
            {Integer.MAX_VALUE, Integer.MIN_VALUE}};
        for (int[] w : wrong) {
            CHECK.due("13: " + w[0] + " to " + w[1], x.rope(w[0], w[1]), -1);
        }
        CHECK.same("13: refused", Check.state(x), before);
    }

    /** Promise 14: "CORN is n (1 .. 9) more (9 at most)"; "NONE: others." */
    private static void sowBounds() {
        RopeRemembers x = Check.made("0891", "");
        CHECK.due("14: 1 more", x.sow(1, 1), 9);
        CHECK.due("14: 9 at most", x.sow(2, 1), 9);
        CHECK.due("14: 9 more", x.sow(0, 9), 9);
        CHECK.due("14: 9 more of 1", x.sow(3, 9), 9);
        CHECK.due("14: such as change nothing are done, too", x.count(10), 4);
        String before = Check.state(x);
        int[][] wrong = {{0, 0}, {0, 10}, {0, -1}, {4, 1}, {-1, 1}, {4, 0}, {0, Integer.MAX_VALUE}, {0, Integer.MIN_VALUE},
            {Integer.MAX_VALUE, 1}, {Integer.MIN_VALUE, 1}};
        for (int[] w : wrong) {
            CHECK.due("14: " + w[0] + ", " + w[1], x.sow(w[0], w[1]), -1);
        }
        CHECK.same("14: refused", Check.state(x), before);
    }

    /** Promise 15: "(an empty one: nothing)". */
    private static void weekEmpty() {
        RopeRemembers x = made();
        x.show(0);
        String before = Check.state(x);
        CHECK.due("15: empty", x.week(), 0);
        CHECK.row("15: empty", x, 0, 3);
        CHECK.same("15: empty changes nothing", Check.state(x), before);
        CHECK.due("15: empty, no people", new RopeRemembers().week(), 0);
    }

    /** Promise 15: "+ (THE ROPE: its RIGHT is 1 more), - (1 less; each refused, if it can't be)". */
    private static void weekRope() {
        RopeRemembers x = made();
        CHECK.due("15: + at the last furrow", Check.week(x, "+"), 0);
        CHECK.row("15: + at the last furrow", x, 1, 3);
        x.rope(3, 3);
        CHECK.due("15: - of one furrow", Check.week(x, "-"), 0);
        CHECK.row("15: - of one furrow", x, 1, 3);
        CHECK.due("15: right", x.count(2), 3);
        CHECK.due("15: + and no more", Check.week(x, "++"), 1);
        CHECK.due("15: right at the last", x.count(2), 4);
        CHECK.due("15: left stays", x.count(1), 3);
        x.rope(0, 0);
        CHECK.due("15: - at the first furrow", Check.week(x, "-"), 0);
        CHECK.due("15: + of one furrow in all", Check.week(new RopeRemembers(), "+"), 0);
        CHECK.due("15: - of one furrow in all", Check.week(new RopeRemembers(), "-"), 0);
    }

    /** Promise 15: "till one can't be (it answers below 0): how many were done". */
    private static void weekStops() {
        String[] texts = {"sac0sa", "c9c9+c9", "sh", "gabgac", "gaagab", "gai", "c1sdc1", "---c1-c1", "c0c0"};
        int[] done = {2, 2, 0, 2, 0, -3, 1, 6, 2};
        int[] stopped = {1, 1, 1, 0, 1, 0, 1, 0, 0};
        for (int i = 0; i < texts.length; i++) {
            RopeRemembers x = made();
            x.mean();
            CHECK.due("15: " + texts[i], Check.week(x, texts[i]), done[i]);
            if (done[i] >= 0) {
                CHECK.due("15: " + texts[i] + ": one could not be", x.row(0), stopped[i]);
                CHECK.due("15: " + texts[i] + ": in", x.row(1), Integer.bitCount(x.count(4)));
            }
            CHECK.due("15: " + texts[i] + ": undone as one", x.count(10), done[i] > 0 ? 1 : 0);
        }
    }

    /** Promise 15: ACTS one behind another, of two letters each. */
    private static void weekGlances() {
        RopeRemembers x = Check.made("0", "11;11;11;11;11;11;11;11");
        CHECK.due("15: g to all", Check.week(x, "gahgbhgchgdhgehgfhgghghaghbghcghdgheghfghg"), 14);
        CHECK.row("15: g to all", x, 0, 8);
        CHECK.due("15: h sees all", x.person(7, 2), 127);
        CHECK.due("15: all see h", x.person(7, 5), 7);
        CHECK.due("15: s of all", Check.week(x, "shsgsfsesdscsbsa"), 8);
        CHECK.due("15: signs", x.count(5), 255);
        RopeRemembers y = Check.made("9", "90");
        Check.rule(y, "b");
        CHECK.due("15: c9 and c0", Check.week(y, "c9c0"), 2);
        CHECK.due("15: day", y.count(6), 9);
    }

    /** Promise 15: "(as people(); 60 signs)". */
    private static void weekSixty() {
        RopeRemembers x = made();
        String sixty = Check.many("gab", 20);
        CHECK.due("15: 60 signs", Check.week(x, sixty), 20);
        CHECK.due("15: turned twenty times", x.person(0, 2), 6);
        CHECK.due("15: 60 crossings and more", Check.week(x, Check.many("c9", 30)), 30);
        CHECK.due("15: day", x.count(6), 270);
        CHECK.due("15: 61 signs", Check.week(x, sixty + "+"), -61);
        CHECK.due("15: 61 signs, wrong there", Check.week(x, sixty + "x"), -61);
        CHECK.due("15: 61 signs, the first 60 could go on", Check.week(x, Check.many("+-", 29) + "ga" + "b"), -61);
        CHECK.due("15: 60 signs, ended too early", Check.week(x, Check.many("+-", 29) + "ga"), -61);
        CHECK.due("15: 61 signs, the 60th wrong", Check.week(x, Check.many("+-", 29) + "gxb"), -60);
        CHECK.due("15: 80 signs", Check.week(x, Check.many("-", 80)), -61);
        CHECK.due("15: nothing is done", x.count(6), 270);
        CHECK.due("15: as two", x.count(10), 2);
        CHECK.due("15: sixty acts", Check.week(x, Check.many("-+", 30)), 60);
    }

    /** Promise 15: "nothing is done then"; THE TEXT is empty. */
    private static void weekRefused() {
        String[] texts = {"c", "c/", "c:", "s", "s`", "si", "g", "g`a", "ga", "gai", "ga`", "c1c", "sas", "gabg", "-c1 ",
            "c1;", "1", "+,", "C1", "c1\0"};
        int[] due = {-2, -2, -2, -2, -2, -2, -2, -2, -3, -3, -3, -4, -4, -5, -4, -3, -1, -2, -1, -3};
        for (int i = 0; i < texts.length; i++) {
            RopeRemembers x = made();
            x.crossing(1);
            String before = Check.state(x);
            CHECK.due("15: '" + texts[i] + "'", Check.week(x, texts[i]), due[i]);
            CHECK.due("15: the text is empty", x.count(12), 0);
            CHECK.same("15: refused", Check.state(x), before);
            CHECK.row("15: refused leaves the row", x, 14, 0);
            CHECK.due("15: nothing stays of it", Check.week(x, "gab"), 1);
        }
    }

    private static int act(RopeRemembers x, int which) {
        switch (which) {
            case 0:
                return x.crossing(1);
            case 1:
                return x.show(2);
            case 2:
                return x.glance(2, 1);
            case 3:
                return x.rope(2, 3);
            case 4:
                return x.sow(1, 3);
            case 5:
                return x.crossing(60);
            default:
                return Check.week(x, "c2sb-gbac1+");
        }
    }

    /** Promise 16: each act behind each other one; all that it changes is as ahead of it. */
    private static void undoEach() {
        for (int first = 0; first <= 6; first++) {
            for (int second = 0; second <= 6; second++) {
                RopeRemembers x = made();
                x.show(0);
                x.crossing(1);
                String ahead = Check.state(x);
                CHECK.due("16: done", act(x, first) >= 0, true);
                String between = Check.state(x);
                boolean done = act(x, second) >= 0;
                if (done) {
                    CHECK.due("16: undo " + second, x.undo(), 3);
                }
                CHECK.same("16: " + second + " behind " + first, Check.state(x), between);
                CHECK.due("16: undo " + first, x.undo(), 2);
                CHECK.same("16: " + first, Check.state(x), ahead);
            }
        }
    }

    /** Promise 16: "such as were done; crossing() of 1 and more, week() of which one ACT was done"; "Refused: none." */
    private static void undoNothingDone() {
        RopeRemembers x = made();
        CHECK.due("16: none", x.undo(), -1);
        x.crossing(0);
        x.crossing(61);
        x.show(3);
        x.glance(0, 0);
        x.rope(1, 0);
        x.rope(0, 5);
        x.sow(0, 0);
        Check.week(x, "");
        Check.week(x, "+c1");
        Check.week(x, "c");
        CHECK.due("16: nothing was done", x.count(10), 0);
        CHECK.due("16: none still", x.undo(), -1);
        x.show(1);
        x.show(1);
        CHECK.due("16: the second was not done", x.undo(), 0);
        CHECK.due("16: none is left", x.undo(), -1);
        CHECK.due("16: a week of one act done", Check.week(x, "sasa"), 1);
        CHECK.due("16: it can be undone", x.undo(), 0);
        CHECK.due("16: no signs", x.count(5), 0);
    }

    /** Promise 16: "of 12 that are kept, the latest ones". */
    private static void undoTwelve() {
        RopeRemembers x = Check.made("0", "11");
        for (int i = 1; i <= 13; i++) {
            x.crossing(i);
            CHECK.due("16: " + i, x.count(10), Math.min(i, 12));
        }
        int day = 91;
        for (int i = 13; i >= 2; i--) {
            CHECK.due("16: undo " + i, x.undo(), i - 2);
            day -= i;
            CHECK.due("16: day", x.count(6), day);
        }
        CHECK.due("16: the first is kept no more", x.undo(), -1);
        CHECK.due("16: day 1", x.count(6), 1);
        for (int i = 0; i < 40; i++) {
            x.show(0);
            x.undo();
        }
        CHECK.due("16: done and undone", x.count(10), 0);
        CHECK.due("16: no signs", x.count(5), 0);
    }

    /** Promise 16: what is not among "(CORN, THE ROPE, BELIEF, whom PEOPLE see, SIGNS, DAY, PAID ..)" stays. */
    private static void undoLeavesTheRest() {
        RopeRemembers x = made();
        x.crossing(1);
        x.dig(1, 1);
        Check.rule(x, "8");
        x.mean();
        x.sign(0x31323334);
        x.keep(0);
        CHECK.due("16: undo", x.undo(), 0);
        CHECK.due("16: digs", x.count(9), 1);
        CHECK.due("16: rule", x.person(0, 4), 8);
        CHECK.row("16: the row", x, 5, 1);
        CHECK.due("16: the text", x.count(12), 4);
        CHECK.due("16: kept", x.again(0), true);
        CHECK.due("16: day", x.count(6), 1);
    }

    /** Promise 16: "(field(), people() and again() forget them, if they are not refused; an empty people() does not.)" */
    private static void undoForgotten() {
        RopeRemembers x = made();
        x.keep(0);
        x.show(0);
        x.show(1);
        Check.field(x, "12345678901234567");
        CHECK.due("16: refused field()", x.count(10), 2);
        Check.people(x, "11;");
        CHECK.due("16: refused people()", x.count(10), 2);
        Check.people(x, "");
        CHECK.due("16: empty people()", x.count(10), 2);
        x.again(1);
        x.again(2);
        CHECK.due("16: refused again()", x.count(10), 2);
        CHECK.due("16: undone still", x.undo(), 1);
        x.again(0);
        CHECK.due("16: again()", x.undo(), -1);
        x.show(0);
        Check.people(x, "11");
        CHECK.due("16: people()", x.undo(), -1);
        CHECK.due("16: the sign stays", x.count(5), 1);
        x.show(1);
        Check.field(x, "35204");
        CHECK.due("16: field()", x.undo(), -1);
        CHECK.due("16: the signs stay", x.count(5), 3);
    }
}
