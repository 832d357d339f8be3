/** Promises 24 to 30. */
public final class GlancesTest {
    private static final Check CHECK = new Check("GlancesTest");

    public static void main(String[] args) {
        depends();
        cut();
        cutWide();
        faces();
        knows();
        circle();
        spreads();
        unlike();
        CHECK.finish();
    }

    /** a sees b; b sees c; c sees b; d sees a; e nobody. */
    private static RopeRemembers chain() {
        return Check.made("0", "55b;55c;55b;55a;55");
    }

    private static void depends() {
        RopeRemembers x = chain();
        CHECK.due("24: a", x.depends(0), 6);
        CHECK.row("24: a", x, 2, 1);
        CHECK.due("24: b on itself too", x.depends(1), 6);
        CHECK.row("24: b on itself too", x, 2, 4);
        CHECK.due("24: d", x.depends(3), 7);
        CHECK.row("24: d", x, 3, 0);
        CHECK.due("24: e", x.depends(4), 0);
        CHECK.row("24: e", x, 0, 0);
        CHECK.due("24: none such", x.depends(5), -1);
        CHECK.due("24: none such", x.depends(-1), -1);
        x = Check.made("0", "11b;11c;11d;11e;11f;11g;11h;11a");
        CHECK.due("24: a ring of eight", x.depends(0), 255);
        CHECK.row("24: a ring of eight", x, 8, 8);
    }

    private static void cut() {
        RopeRemembers x = chain();
        CHECK.due("25: a of c", x.cut(0, 2), 1);
        CHECK.row("25: a of c", x, 1);
        CHECK.due("25: d of c", x.cut(3, 2), 1);
        CHECK.row("25: d of c", x, 8);
        CHECK.due("25: e of a", x.cut(4, 0), 0);
        CHECK.row("25: e of a", x, 16);
        CHECK.due("25: b of a", x.cut(1, 0), 0);
        CHECK.row("25: b of a", x, 6);
        CHECK.due("25: like ones", x.cut(1, 1), -1);
        CHECK.due("25: none such", x.cut(5, 1), -1);
        CHECK.due("25: none such", x.cut(1, 5), -1);
        CHECK.due("25: none such", x.cut(-1, 1), -1);
        CHECK.row("25: refused leaves the row", x, 6);
        x = Check.made("0", "55bc;55c;55");
        CHECK.due("25: a of b", x.cut(0, 1), 1);
        CHECK.row("25: a of b", x, 5);
    }

    private static void cutWide() {
        RopeRemembers x = Check.made("0",
            "99bcdefgh;99acdefgh;99abdefgh;99abcefgh;99abcdfgh;99abcdegh;99abcdefh;99abcd");
        CHECK.due("25: all see all", x.cut(0, 1), 7);
        CHECK.row("25: all see all", x, 1);
        CHECK.due("25: h sees four", x.cut(7, 0), 4);
        CHECK.row("25: h sees four", x, 128);
        x = Check.made("0", "99b;99cd;99e;99e;99f;99");
        CHECK.due("25: a of f", x.cut(0, 5), 1);
        CHECK.row("25: a of f", x, 1);
        CHECK.due("25: b of e", x.cut(1, 4), 2);
        CHECK.row("25: b of e", x, 2);
    }

    private static void faces() {
        CHECK.due("26: no people", new RopeRemembers().faces(), -2);
        CHECK.due("26: one", Check.made("0", "11").faces(), -2);
        CHECK.due("26: all see each other", Check.made("0", "11b;11a").faces(), -2);
        RopeRemembers x = Check.made("0", "95b;01;01");
        CHECK.due("26: a and b", x.faces(), 2);
        CHECK.row("26: a and b", x, 0, 1);
        CHECK.due("26: sees as it did", x.person(1, 2), 0);
        CHECK.belief("26: believes as it did", x, "900");
        x = Check.made("0", "09;99;01;95");
        CHECK.due("26: c by d", x.faces(), 3);
        CHECK.row("26: c by d", x, 2, 3);
        x = Check.made("0", "11;11;11");
        CHECK.due("26: of like ones the least", x.faces(), 3);
        CHECK.row("26: of like ones the least", x, 0, 1);
    }

    private static void knows() {
        // a sees b, b sees c, c sees d; d is IN, all others are OUT; e is OUT and sees nobody.
        RopeRemembers x = Check.made("0", "05b;05c;05d;95;05");
        CHECK.due("27: 0", x.knows(0), 23);
        CHECK.row("27: 0", x, 4, 3);
        CHECK.due("27: 1", x.knows(1), 19);
        CHECK.row("27: 1", x, 3, 3);
        CHECK.due("27: 2", x.knows(2), 17);
        CHECK.row("27: 2", x, 2, 3);
        CHECK.due("27: 3", x.knows(3), 16);
        CHECK.row("27: 3", x, 1, 3);
        CHECK.due("27: 9", x.knows(9), 16);
        CHECK.row("27: 9", x, 1, 3);
        CHECK.due("27: 10", x.knows(10), -1);
        CHECK.due("27: -1", x.knows(-1), -1);
        x = Check.made("0", "05b;05a");
        CHECK.due("27: each other", x.knows(9), 3);
        CHECK.row("27: each other", x, 2, 0);
        x = Check.made("0", "05b;05c;05d;05e;05f;05g;05h;95");
        CHECK.due("27: seven", x.knows(7), 0);
        CHECK.row("27: seven", x, 0, 7);
        CHECK.due("27: six", x.knows(6), 1);
    }

    private static void circle() {
        RopeRemembers x = Check.made("0", "11bc;11ac;11b;11e;11d");
        CHECK.due("28: two", x.circle(), 2);
        CHECK.row("28: two", x, 3);
        x.glance(2, 0);
        CHECK.due("28: three", x.circle(), 3);
        CHECK.row("28: three", x, 7);
        x.glance(0, 1);
        CHECK.due("28: of as many the least", x.circle(), 2);
        CHECK.row("28: of as many the least", x, 5);
        CHECK.due("28: one alone", Check.made("0", "11b;11").circle(), 1);
        x = new RopeRemembers();
        CHECK.due("28: none", x.circle(), 0);
        CHECK.row("28: none", x, 0);
    }

    private static void spreads() {
        // b sees a, c sees b, d sees c.
        RopeRemembers x = Check.made("0", "11;11a;11b;11c;11");
        CHECK.due("29: a", x.spreads(1), 3);
        CHECK.row("29: a", x, 15, 7);
        CHECK.due("29: c", x.spreads(4), 1);
        CHECK.row("29: c", x, 12, 4);
        CHECK.due("29: d", x.spreads(8), 0);
        CHECK.row("29: d", x, 8, 8);
        CHECK.due("29: a and d", x.spreads(9), 2);
        CHECK.row("29: a and d", x, 15, 11);
        CHECK.due("29: none", x.spreads(0), 0);
        CHECK.row("29: none", x, 0, 0);
        CHECK.due("29: none such", x.spreads(32), -1);
        CHECK.due("29: none such", x.spreads(-1), -1);
        x = Check.made("0", "11b;11c;11d;11e;11f;11g;11h;11");
        CHECK.due("29: eight", x.spreads(128), 7);
        CHECK.row("29: eight", x, 255, 254);
    }

    private static void unlike() {
        RopeRemembers x = Check.made("0", "95;05a;95b;05;95d");
        CHECK.due("30: three", x.unlike(), 3);
        CHECK.row("30: three", x, 0, 1);
        x.glance(1, 0);
        CHECK.due("30: two", x.unlike(), 2);
        CHECK.row("30: two", x, 1, 2);
        x.glance(1, 2);
        CHECK.due("30: each other counts once", x.unlike(), 2);
        x = Check.made("0", "95b;95a");
        x.mean();
        CHECK.due("30: none", x.unlike(), 0);
        CHECK.row("30: none", x);
    }
}
