/** Boundary cases of promises 24 to 30, in the document's order. */
public final class BoundsGlancesTest {
    private static final Check CHECK = new Check("BoundsGlancesTest");
    private static final int[] FAR = {-1, 8, 31, 32, 33, Integer.MIN_VALUE, Integer.MAX_VALUE};

    public static void main(String[] args) {
        dependsOnNobody();
        dependsOfEight();
        dependsRefused();
        cutNothing();
        cutOfEight();
        cutLeast();
        cutRefused();
        facesNone();
        facesOneSide();
        facesTwoCrossings();
        facesNobodyIn();
        knowsBounds();
        knowsSame();
        knowsRefused();
        circleBounds();
        spreadsNone();
        spreadsAll();
        spreadsRefused();
        unlikeWithout();
        unlikeOfEight();
        CHECK.finish();
    }

    /** Eight, each of whom sees each other one. */
    private static RopeRemembers all(String digits) {
        RopeRemembers x = new RopeRemembers();
        for (int i = 0; i < 8; i++) {
            String others = "abcdefgh".replace("abcdefgh".substring(i, i + 1), "");
            Check.people(x, digits + others);
        }
        return x;
    }

    /** a sees b, b sees c, .. g sees h. */
    private static RopeRemembers chain(String digits) {
        RopeRemembers x = new RopeRemembers();
        for (int i = 0; i < 8; i++) {
            Check.people(x, digits + (i < 7 ? "bcdefgh".substring(i, i + 1) : ""));
        }
        return x;
    }

    /** Promise 24: "on itself too, if so". */
    private static void dependsOnNobody() {
        RopeRemembers x = Check.made("0", "11;11a");
        CHECK.due("24: on nobody", x.depends(0), 0);
        CHECK.row("24: on nobody", x, 0, 1);
        CHECK.due("24: not on itself", x.depends(1), 1);
        CHECK.row("24: not on itself", x, 1, 0);
        x.glance(0, 1);
        CHECK.due("24: on itself too", x.depends(1), 3);
        CHECK.row("24: on itself too", x, 2, 2);
    }

    private static void dependsOfEight() {
        RopeRemembers x = chain("11");
        for (int i = 0; i < 8; i++) {
            CHECK.due("24: chain, " + i, x.depends(i), 255 & -2 << i);
            CHECK.row("24: chain, " + i, x, 7 - i, i);
        }
        x.glance(7, 0);
        for (int i = 0; i < 8; i++) {
            CHECK.due("24: ring, " + i, x.depends(i), 255);
            CHECK.row("24: ring, " + i, x, 8, 8);
        }
    }

    /** Promise 24: "NONE: none such." */
    private static void dependsRefused() {
        RopeRemembers x = Check.made("0", "11b;11");
        x.mean();
        CHECK.due("24: 2 of two", x.depends(2), -1);
        for (int person : FAR) {
            CHECK.due("24: " + person, x.depends(person), -1);
        }
        CHECK.row("24: refused leaves the row", x, 1, 1);
        CHECK.due("24: no people", new RopeRemembers().depends(0), -1);
    }

    /** Promise 25: it does not depend already. */
    private static void cutNothing() {
        RopeRemembers x = Check.made("0", "11;11c;11;11a");
        CHECK.due("25: sees nobody", x.cut(0, 1), 0);
        CHECK.row("25: sees nobody", x, 1);
        CHECK.due("25: sees another", x.cut(1, 0), 0);
        CHECK.row("25: with whom it sees", x, 6);
        CHECK.due("25: sees it", x.cut(3, 0), 1);
        CHECK.row("25: sees it", x, 8);
    }

    private static void cutOfEight() {
        RopeRemembers x = all("11");
        for (int i = 0; i < 8; i++) {
            for (int j = 0; j < 8; j++) {
                if (i != j) {
                    CHECK.due("25: all see all", x.cut(i, j), 7);
                    CHECK.row("25: all see all", x, Math.min(1 << i, i == 0 ? 1 : 255 - (1 << j)));
                }
            }
        }
        x = chain("11");
        CHECK.due("25: first of last", x.cut(0, 7), 1);
        CHECK.row("25: first of last", x, 1);
        CHECK.due("25: last of first", x.cut(7, 0), 0);
        CHECK.row("25: last of first", x, 128);
        CHECK.due("25: seventh of first", x.cut(6, 0), 0);
        CHECK.row("25: seventh of first", x, 192);
    }

    /** Promise 25: "of sets .. out of which just so many glances go, the least bits". */
    private static void cutLeast() {
        // b sees a and d; a sees c; d sees c: two go out of {b}, of {a, b} and of {a, b, d}.
        RopeRemembers x = Check.made("0", "11c;11ad;11;11c");
        CHECK.due("25: b of c", x.cut(1, 2), 2);
        CHECK.row("25: b of c", x, 2);
        // c sees a and b, a sees d: two go out of {c} and of {a, c}, one of {b, c} and of {a, b, c}.
        x = Check.made("0", "11d;11;11ab;11");
        CHECK.due("25: c of d", x.cut(2, 3), 1);
        CHECK.row("25: c of d", x, 6);
    }

    /** Promise 25: "NONE: none such, like ones." */
    private static void cutRefused() {
        RopeRemembers x = Check.made("0", "11b;11a");
        x.mean();
        CHECK.due("25: like ones", x.cut(0, 0), -1);
        CHECK.due("25: like ones", x.cut(1, 1), -1);
        CHECK.due("25: 2 of two", x.cut(2, 0), -1);
        CHECK.due("25: of 2", x.cut(0, 2), -1);
        for (int person : FAR) {
            CHECK.due("25: " + person, x.cut(person, 0), -1);
            CHECK.due("25: of " + person, x.cut(0, person), -1);
            CHECK.due("25: both " + person, x.cut(person, person), -1);
        }
        CHECK.row("25: refused leaves the row", x, 1, 1);
        CHECK.due("25: no people", new RopeRemembers().cut(0, 1), -1);
    }

    /** Promise 26: "-2: there are none." */
    private static void facesNone() {
        CHECK.due("26: no people", new RopeRemembers().faces(), -2);
        CHECK.due("26: one", Check.made("0", "91").faces(), -2);
        CHECK.due("26: two face to face", Check.made("0", "91b;91a").faces(), -2);
        RopeRemembers x = all("91");
        x.mean();
        CHECK.due("26: eight face to face", x.faces(), -2);
        CHECK.row("26: no row is told", x, 9, 1);
    }

    /** Promise 26: "of whom at least one does not see the other". */
    private static void facesOneSide() {
        RopeRemembers x = all("91");
        x.glance(7, 6);
        CHECK.due("26: the last does not see the one ahead", x.faces(), 8);
        CHECK.row("26: the last does not see the one ahead", x, 6, 7);
        x.glance(6, 7);
        CHECK.due("26: neither sees the other", x.faces(), 8);
        CHECK.row("26: neither sees the other", x, 6, 7);
        x.glance(7, 6);
        CHECK.due("26: the one ahead does not see the last", x.faces(), 8);
        CHECK.row("26: the one ahead does not see the last", x, 6, 7);
    }

    /** Promise 26: "behind the next CROSSING but one (2 CROSSINGS)", by SIGNS too. */
    private static void facesTwoCrossings() {
        RopeRemembers x = Check.made("0", "05;05");
        Check.rule(x, "(d=1)*9");
        CHECK.due("26: in behind two alone", x.faces(), 2);
        CHECK.row("26: in behind two alone", x, 0, 1);
        Check.rule(x, "(d<1)*9");
        CHECK.due("26: out behind two", x.faces(), 0);
        x = Check.made("0", "95;95");
        Check.rule(x, "b-g*9");
        x.show(0);
        CHECK.due("26: by signs", x.faces(), 1);
        CHECK.due("26: signs stay", x.count(5), 1);
        CHECK.due("26: glances stay", x.count(14), 0);
    }

    /** Promise 26: the most is nobody. */
    private static void facesNobodyIn() {
        RopeRemembers x = Check.made("0", "95;95;95");
        Check.rule(x, "0");
        CHECK.due("26: nobody in", x.faces(), 0);
        CHECK.row("26: the least row", x, 0, 1);
    }

    /** Promise 27: "to a depth k (0 .. 9)"; "the depth from which on it is always the same". */
    private static void knowsBounds() {
        RopeRemembers x = chain("05");
        x.sheet(2, 8, -7, 1);
        CHECK.due("27: all out, to 9", x.knows(9), 255);
        CHECK.row("27: all out, to 9", x, 8, 0);
        x.sheet(2, 8, -60, 9);
        CHECK.due("27: all out, to 0", x.knows(0), 255);
        x = chain("05");
        x.sheet(2, 8, -62, 10);
        CHECK.due("27: the last is in", x.count(4), 128);
        for (int k = 0; k <= 9; k++) {
            int knowing = Math.max(0, 7 - k);
            CHECK.due("27: to " + k, x.knows(k), (1 << knowing) - 1);
            CHECK.row("27: to " + k, x, knowing, 7);
        }
    }

    private static void knowsSame() {
        RopeRemembers x = all("95");
        CHECK.due("27: all in", x.knows(5), 0);
        CHECK.row("27: all in", x, 0, 0);
        x = Check.made("0", "05b;95");
        CHECK.due("27: one step", x.knows(1), 0);
        CHECK.row("27: one step", x, 0, 1);
        CHECK.due("27: who is in knows nothing", Check.made("0", "95").knows(0), 0);
        x = Check.made("0", "05;95a");
        CHECK.due("27: sees nobody", x.knows(9), 1);
        CHECK.row("27: sees nobody", x, 1, 0);
        x = new RopeRemembers();
        CHECK.due("27: no people", x.knows(9), 0);
        CHECK.row("27: no people", x, 0, 0);
    }

    /** Promise 27: "NONE: another k." */
    private static void knowsRefused() {
        RopeRemembers x = Check.made("0", "05");
        x.mean();
        int[] wrong = {-1, 10, 11, Integer.MIN_VALUE, Integer.MAX_VALUE};
        for (int k : wrong) {
            CHECK.due("27: " + k, x.knows(k), -1);
        }
        CHECK.row("27: refused leaves the row", x, 0, 1);
    }

    /** Promise 28: "of as many the least; one alone counts; 0 without PEOPLE". */
    private static void circleBounds() {
        RopeRemembers x = new RopeRemembers();
        CHECK.due("28: no people", x.circle(), 0);
        CHECK.row("28: no people", x, 0);
        x = Check.made("0", "11");
        CHECK.due("28: one", x.circle(), 1);
        CHECK.row("28: one", x, 1);
        x = chain("11");
        CHECK.due("28: nobody face to face", x.circle(), 1);
        CHECK.row("28: nobody face to face", x, 1);
        x.glance(7, 6);
        CHECK.due("28: the last two", x.circle(), 2);
        CHECK.row("28: the last two", x, 192);
        x.glance(1, 0);
        CHECK.due("28: of as many the least", x.circle(), 2);
        CHECK.row("28: of as many the least", x, 3);
        x = all("11");
        CHECK.due("28: all", x.circle(), 8);
        CHECK.row("28: all", x, 255);
        x.glance(0, 7);
        CHECK.due("28: all but one", x.circle(), 7);
        CHECK.row("28: all but one", x, 127);
    }

    /** Promise 29: "(0 on)"; "(those told, if it is 0)". */
    private static void spreadsNone() {
        RopeRemembers x = chain("11");
        CHECK.due("29: told to nobody", x.spreads(0), 0);
        CHECK.row("29: told to nobody", x, 0, 0);
        CHECK.due("29: nobody sees the first", x.spreads(1), 0);
        CHECK.row("29: nobody sees the first", x, 1, 1);
        CHECK.due("29: told to all", x.spreads(255), 0);
        CHECK.row("29: told to all", x, 255, 255);
        x = new RopeRemembers();
        CHECK.due("29: no people", x.spreads(0), 0);
        CHECK.row("29: no people", x, 0, 0);
    }

    private static void spreadsAll() {
        RopeRemembers x = chain("11");
        CHECK.due("29: from the last", x.spreads(128), 7);
        CHECK.row("29: from the last", x, 255, 254);
        x.glance(7, 0);
        CHECK.due("29: round", x.spreads(1), 7);
        CHECK.row("29: round", x, 255, 253);
        CHECK.due("29: all at once", all("11").spreads(16), 1);
    }

    /** Promise 29: "NONE: bits of none such." */
    private static void spreadsRefused() {
        RopeRemembers x = Check.made("0", "11;11");
        x.mean();
        int[] wrong = {4, 5, 7, 256, -1, -2, Integer.MIN_VALUE, Integer.MAX_VALUE};
        for (int some : wrong) {
            CHECK.due("29: " + some, x.spreads(some), -1);
        }
        CHECK.row("29: refused leaves the row", x, 1, 1);
        CHECK.due("29: no people", new RopeRemembers().spreads(1), -1);
        CHECK.due("29: a ninth", all("11").spreads(256), -1);
    }

    /** Promise 30: "(the lesser first; nothing without)". */
    private static void unlikeWithout() {
        RopeRemembers x = new RopeRemembers();
        x.mean();
        CHECK.due("30: no people", x.unlike(), 0);
        CHECK.row("30: no people", x);
        x = Check.made("0", "95;05");
        x.mean();
        CHECK.due("30: neither sees the other", x.unlike(), 0);
        CHECK.row("30: neither sees the other", x);
        x = all("95");
        x.mean();
        CHECK.due("30: all in", x.unlike(), 0);
        CHECK.row("30: all in", x);
    }

    private static void unlikeOfEight() {
        RopeRemembers x = chain("95");
        x.sheet(2, 7, 9, 0);
        CHECK.due("30: the last two", x.unlike(), 1);
        CHECK.row("30: the last two", x, 6, 7);
        x = all("95");
        x.sheet(2, 4, 9, 0);
        CHECK.due("30: four and four", x.unlike(), 16);
        CHECK.row("30: four and four", x, 0, 4);
        x = Check.made("0", "05;95a");
        CHECK.due("30: the other sees it", x.unlike(), 1);
        CHECK.row("30: the lesser first", x, 0, 1);
    }
}
