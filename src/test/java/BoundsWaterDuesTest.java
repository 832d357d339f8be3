/** Boundary cases of promises 31 to 40, in the document's order. */
public final class BoundsWaterDuesTest {
    private static final Check CHECK = new Check("BoundsWaterDuesTest");
    private static final String SIXTEEN = "0000000000000000";
    private static final int[] FAR = {-1, 61, Integer.MIN_VALUE, Integer.MAX_VALUE};

    public static void main(String[] args) {
        digBounds();
        digTwelve();
        forgetNone();
        coursesOne();
        coursesSixteen();
        coursesWithout();
        sureBounds();
        nextBounds();
        nextNoneFits();
        duesBounds();
        duesRests();
        duesRefused();
        cheapestBounds();
        cheapestRefused();
        yardOneShorter();
        yardBounds();
        harvestBounds();
        owedBounds();
        owedRefused();
        CHECK.finish();
    }

    /** Promise 31: "is 1: stones of the river, 0: none"; "Refused: others". */
    private static void digBounds() {
        RopeRemembers x = Check.made(SIXTEEN, "");
        CHECK.due("31: the last furrow", x.dig(15, 1), 1);
        CHECK.due("31: the first furrow", x.dig(0, 0), 2);
        String before = Check.state(x);
        int[][] wrong = {{16, 0}, {16, 1}, {-1, 0}, {-1, 1}, {0, 2}, {0, -1}, {32, 1}, {Integer.MIN_VALUE, 0},
            {Integer.MAX_VALUE, 1}, {0, Integer.MIN_VALUE}, {0, Integer.MAX_VALUE}};
        for (int[] w : wrong) {
            CHECK.due("31: " + w[0] + ", " + w[1], x.dig(w[0], w[1]), -1);
        }
        CHECK.same("31: refused", Check.state(x), before);
        CHECK.due("31: courses as before", x.courses(), 15);
    }

    /** Promise 31: "Refused: .. 12." The same FURROW counts each time. */
    private static void digTwelve() {
        RopeRemembers x = Check.made(SIXTEEN, "");
        for (int i = 1; i <= 12; i++) {
            CHECK.due("31: " + i, x.dig(7, 1), i);
        }
        CHECK.due("31: a thirteenth", x.dig(7, 1), -1);
        CHECK.due("31: a thirteenth elsewhere", x.dig(6, 0), -1);
        CHECK.due("31: twelve", x.count(9), 12);
        CHECK.due("31: the thirteenth counts nothing", x.courses(), 8 * 9);
        CHECK.due("32: twelve are forgotten", x.forget(), 12);
        CHECK.due("31: anew", x.dig(6, 0), 1);
    }

    /** Promise 32: none to forget. */
    private static void forgetNone() {
        RopeRemembers x = new RopeRemembers();
        CHECK.due("32: none", x.forget(), 0);
        x.dig(0, 0);
        CHECK.due("32: one", x.forget(), 1);
        CHECK.due("32: none again", x.forget(), 0);
        CHECK.due("32: all courses", x.courses(), 1);
    }

    /** Promise 33: one FURROW alone. */
    private static void coursesOne() {
        RopeRemembers x = new RopeRemembers();
        CHECK.due("33: one", x.courses(), 1);
        CHECK.row("33: one", x, 0, 0);
        x.dig(0, 1);
        CHECK.due("33: stones", x.courses(), 1);
        x.dig(0, 0);
        CHECK.due("33: stones and none at one furrow", x.courses(), 0);
        CHECK.row("33: stones and none at one furrow", x);
    }

    /** Promise 33: sixteen FURROWS; "the narrowest (l, r; of as narrow ones the first)". */
    private static void coursesSixteen() {
        RopeRemembers x = Check.made(SIXTEEN, "");
        CHECK.due("33: all", x.courses(), 136);
        CHECK.row("33: all", x, 0, 0);
        x.dig(15, 1);
        CHECK.due("33: the last", x.courses(), 16);
        CHECK.row("33: the last", x, 15, 15);
        x.dig(0, 1);
        CHECK.due("33: from first to last", x.courses(), 1);
        CHECK.row("33: from first to last", x, 0, 15);
        x.forget();
        x.dig(0, 0);
        x.dig(15, 0);
        CHECK.due("33: neither end", x.courses(), 14 * 15 / 2);
        CHECK.row("33: neither end", x, 1, 1);
    }

    /** Promise 33: "nothing without". */
    private static void coursesWithout() {
        RopeRemembers x = Check.made("000", "");
        x.dig(0, 1);
        x.dig(1, 0);
        x.dig(2, 1);
        x.mean();
        CHECK.due("33: none between", x.courses(), 0);
        CHECK.row("33: none between", x);
        x = Check.made("000", "");
        x.dig(0, 0);
        x.dig(1, 0);
        x.dig(2, 0);
        x.mean();
        CHECK.due("33: none at all", x.courses(), 0);
        CHECK.row("33: none at all", x);
    }

    /** Promise 34: "(0 and 0 without courses.)" */
    private static void sureBounds() {
        RopeRemembers x = new RopeRemembers();
        CHECK.due("34: one furrow", x.sure(), 1);
        CHECK.row("34: one furrow", x, 0);
        x.dig(0, 0);
        CHECK.due("34: without courses", x.sure(), 0);
        CHECK.row("34: without courses", x, 0);
        x = Check.made(SIXTEEN, "");
        CHECK.due("34: nothing dug", x.sure(), 0);
        CHECK.row("34: nothing dug", x, 0);
        x.dig(0, 1);
        x.dig(15, 1);
        CHECK.due("34: all", x.sure(), 65535);
        CHECK.row("34: all", x, 0);
        x.forget();
        for (int i = 0; i < 12; i++) {
            x.dig(i, 0);
        }
        CHECK.due("34: none is sure", x.sure(), 0);
        CHECK.row("34: twelve are in none", x, 4095);
        x.forget();
        x.dig(15, 1);
        x.dig(14, 0);
        CHECK.due("34: the last alone", x.sure(), 32768);
        CHECK.row("34: all others in none", x, 32767);
    }

    /** Promise 35: "so that, stones or none, the fewest courses are left at most; of equal ones the first". */
    private static void nextBounds() {
        RopeRemembers x = new RopeRemembers();
        CHECK.due("35: one furrow", x.next(), 0);
        CHECK.row("35: one furrow", x, 1);
        x = Check.made("00", "");
        CHECK.due("35: of equal ones the first", x.next(), 0);
        CHECK.row("35: of equal ones the first", x, 2);
        x.dig(0, 1);
        CHECK.due("35: the other", x.next(), 1);
        CHECK.row("35: the other", x, 1);
        x = Check.made(SIXTEEN, "");
        CHECK.due("35: 66 and 70, 70 and 66", x.next(), 5);
        CHECK.row("35: 66 and 70, 70 and 66", x, 70);
        x.dig(14, 1);
        x.dig(13, 0);
        CHECK.due("35: the last", x.next(), 15);
        CHECK.row("35: the last", x, 1);
        x.dig(15, 0);
        CHECK.due("35: one is left", x.next(), 0);
        CHECK.row("35: one is left", x, 1);
        CHECK.due("35: nothing is dug by it", x.count(9), 3);
    }

    /** Promise 35: "-2: none fits." */
    private static void nextNoneFits() {
        RopeRemembers x = Check.made("00", "");
        x.mean();
        x.dig(0, 0);
        x.dig(1, 0);
        CHECK.due("35: none fits", x.next(), -2);
        CHECK.row("35: no row is told", x, 0, 1);
    }

    /** Promise 36: "v coins (0 .. 999)". */
    private static void duesBounds() {
        RopeRemembers x = Check.made("9999999999999999", "");
        CHECK.due("36: 999", x.dues(999), 63);
        CHECK.row("36: 999", x, 63, 63, 63, 63, 63, 63, 63, 62, 62, 62, 62, 62, 62, 62, 62, 62);
        CHECK.due("36: 0", x.dues(0), 0);
        CHECK.row("36: 0", x, 0, 0, 0, 0, 0, 0, 0, 0, 0, 0, 0, 0, 0, 0, 0, 0);
        CHECK.due("36: 1", x.dues(1), 1);
        CHECK.row("36: 1", x, 1, 0, 0, 0, 0, 0, 0, 0, 0, 0, 0, 0, 0, 0, 0, 0);
        x.rope(15, 15);
        CHECK.due("36: all to one", x.dues(999), 999);
        CHECK.row("36: all to one", x, 999);
    }

    /** Promise 36: "to the FURROWS with the greatest rest (of like ones the first)". */
    private static void duesRests() {
        RopeRemembers x = Check.made("0100", "");
        CHECK.due("36: one corn in all", x.dues(999), 0);
        CHECK.row("36: one corn in all", x, 0, 999, 0, 0);
        x = Check.made("12", "");
        CHECK.due("36: the greatest rest", x.dues(1), 0);
        CHECK.row("36: the greatest rest", x, 0, 1);
        x = Check.made("111", "");
        CHECK.due("36: of like ones the first", x.dues(2), 1);
        CHECK.row("36: of like ones the first", x, 1, 1, 0);
        x = Check.made("011", "");
        CHECK.due("36: without corn none", x.dues(1), 0);
        CHECK.row("36: without corn none", x, 0, 1, 0);
        x = Check.made("9119", "");
        x.rope(1, 2);
        CHECK.due("36: of the rope alone", x.dues(3), 2);
        CHECK.row("36: of the rope alone", x, 2, 1);
    }

    /** Promise 36: "-2: there is no CORN; NONE: another v." */
    private static void duesRefused() {
        RopeRemembers x = Check.made("909", "");
        x.mean();
        x.rope(1, 1);
        CHECK.due("36: no corn", x.dues(0), -2);
        CHECK.due("36: no corn", x.dues(999), -2);
        int[] wrong = {-1, 1000, Integer.MIN_VALUE, Integer.MAX_VALUE};
        for (int v : wrong) {
            CHECK.due("36: " + v + " without corn", x.dues(v), -1);
        }
        x.rope(0, 2);
        for (int v : wrong) {
            CHECK.due("36: " + v, x.dues(v), -1);
        }
        CHECK.row("36: no row is told", x, 0, 1);
    }

    /** Promise 37: "k FURROWS (1 on) long"; "(of like ones the first)". */
    private static void cheapestBounds() {
        RopeRemembers x = Check.made("5156", "");
        CHECK.due("37: the second", x.cheapest(1), 1);
        CHECK.row("37: the second", x, 1, 1);
        CHECK.due("37: of like ones the first", x.cheapest(2), 6);
        CHECK.row("37: of like ones the first", x, 0, 1);
        CHECK.due("37: all", x.cheapest(4), 17);
        CHECK.row("37: all", x, 0, 3);
        x = Check.made("9999999999999991", "");
        CHECK.due("37: the last", x.cheapest(1), 1);
        CHECK.row("37: the last", x, 15, 15);
        CHECK.due("37: the last two", x.cheapest(2), 10);
        CHECK.row("37: the last two", x, 14, 15);
        CHECK.due("37: sixteen", x.cheapest(16), 136);
        CHECK.row("37: sixteen", x, 0, 15);
        x.rope(3, 3);
        CHECK.due("37: whatever the rope is", x.cheapest(1), 1);
        x = Check.made("9114", "");
        CHECK.due("37: between", x.cheapest(2), 2);
        CHECK.row("37: between", x, 1, 2);
    }

    /** Promise 37: "-2: there are not so many; NONE: k below 1." */
    private static void cheapestRefused() {
        RopeRemembers x = Check.made(SIXTEEN, "");
        x.mean();
        CHECK.due("37: 17", x.cheapest(17), -2);
        CHECK.due("37: greatest int", x.cheapest(Integer.MAX_VALUE), -2);
        CHECK.due("37: 0", x.cheapest(0), -1);
        CHECK.due("37: -1", x.cheapest(-1), -1);
        CHECK.due("37: least int", x.cheapest(Integer.MIN_VALUE), -1);
        CHECK.row("37: no row is told", x, 0, 1);
        CHECK.due("37: two of one", new RopeRemembers().cheapest(2), -2);
    }

    /** Promise 38: "1 FURROW shorter at its RIGHT from now on". */
    private static void yardOneShorter() {
        RopeRemembers x = Check.made("12345", "90");
        CHECK.due("38: the last one's", x.yard(1), 5);
        CHECK.row("38: the last one's", x, 10, 15);
        CHECK.due("38: of two", x.yard(2), 5 + 4);
        CHECK.row("38: of two", x, 10 + 6, 15 + 10);
        x.crossing(1);
        CHECK.due("38: paid ahead does not count", x.yard(1), 4);
        CHECK.row("38: paid ahead does not count", x, 6, 10);
        x.rope(1, 2);
        CHECK.due("38: of two furrows", x.yard(1), 2);
        CHECK.row("38: of two furrows", x, 1, 3);
    }

    /** Promise 38: "(0 .. 60)"; "-2: THE ROPE is one FURROW; NONE: another n." */
    private static void yardBounds() {
        RopeRemembers x = Check.made("12345", "90");
        CHECK.due("38: none", x.yard(0), 0);
        CHECK.row("38: none", x, 0, 0);
        CHECK.due("38: sixty", x.yard(60), 15);
        CHECK.row("38: sixty", x, 10 + 6 + 3 + 1, 15 + 10 + 6 + 3 + 1);
        for (int n : FAR) {
            CHECK.due("38: " + n, x.yard(n), -1);
        }
        x.rope(4, 4);
        CHECK.due("38: one furrow", x.yard(0), -2);
        CHECK.due("38: one furrow", x.yard(60), -2);
        for (int n : FAR) {
            CHECK.due("38: " + n + " of one furrow", x.yard(n), -1);
        }
        CHECK.row("38: no row is told", x, 20, 35);
        x = Check.made("99", "");
        CHECK.due("38: nobody in", x.yard(60), 0);
        CHECK.row("38: nobody in", x, 0, 0);
    }

    /** Promise 39: "(0 .. n; n 0 .. 60)"; "of equal ones the first"; "NONE: another n." */
    private static void harvestBounds() {
        RopeRemembers x = Check.made("00", "90");
        x.rope(0, 0);
        for (int n = 0; n <= 60; n++) {
            CHECK.due("39: " + n, x.harvest(n), Math.min(n, 9));
            CHECK.row("39: " + n, x, Math.min(n, 9));
        }
        for (int n : FAR) {
            CHECK.due("39: " + n, x.harvest(n), -1);
        }
        CHECK.row("39: refused leaves the row", x, 9);
        x = new RopeRemembers();
        CHECK.due("39: never any", x.harvest(60), 0);
        CHECK.row("39: never any", x, 0);
        x = Check.made("70", "90");
        x.rope(0, 0);
        CHECK.due("39: as much gone as come", x.harvest(60), 9);
        CHECK.row("39: as much gone as come", x, 9);
        CHECK.due("39: equal ones", x.harvest(7), 0);
        CHECK.row("39: equal ones", x, 7);
    }

    /** Promise 40: "in the next n CROSSINGS (0 .. 60)". */
    private static void owedBounds() {
        RopeRemembers x = Check.made("0000000000000009", "90");
        CHECK.due("40: none", x.owed(15, 0), 0);
        CHECK.row("40: none", x, 0, 9);
        CHECK.due("40: eight", x.owed(15, 8), 44);
        CHECK.row("40: eight", x, 8, 1);
        CHECK.due("40: sixty", x.owed(15, 60), 45);
        CHECK.row("40: sixty", x, 9, 0);
        CHECK.due("40: without corn", x.owed(0, 60), 0);
        CHECK.row("40: without corn", x, 0, 0);
        x.rope(0, 14);
        CHECK.due("40: outside the rope", x.owed(15, 60), 0);
        CHECK.row("40: outside the rope", x, 0, 9);
        x = Check.made("5", "05");
        CHECK.due("40: nobody in", x.owed(0, 60), 0);
        CHECK.row("40: nobody in", x, 0, 5);
        x = Check.made("79", "90");
        x.crossing(1);
        CHECK.due("40: paid ahead does not count", x.owed(0, 1), 6);
        CHECK.row("40: paid ahead does not count", x, 1, 5);
    }

    /** Promise 40: "NONE: others." */
    private static void owedRefused() {
        RopeRemembers x = Check.made("5", "90");
        x.mean();
        int[] furrows = {-1, 1, 16, 32, Integer.MIN_VALUE, Integer.MAX_VALUE};
        for (int furrow : furrows) {
            CHECK.due("40: furrow " + furrow, x.owed(furrow, 1), -1);
        }
        for (int n : FAR) {
            CHECK.due("40: n " + n, x.owed(0, n), -1);
        }
        CHECK.row("40: refused leaves the row", x, 9, 1);
    }
}
