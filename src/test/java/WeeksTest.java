/** Promises 10 to 16. */
public final class WeeksTest {
    private static final Check CHECK = new Check("WeeksTest");

    public static void main(String[] args) {
        crossings();
        crossingWithNobody();
        crossingsOneByOne();
        crossingAtOnce();
        crossingsRefused();
        shows();
        glances();
        ropes();
        sows();
        weeks();
        weeksCutShort();
        weeksRefused();
        weeksLong();
        undoes();
        undoOfTwelve();
        undoForgets();
        undoOfWeeks();
        CHECK.finish();
    }

    private static RopeRemembers made() {
        return Check.made("35204", "95bc;62c;31");
    }

    private static void crossings() {
        RopeRemembers x = made();
        CHECK.due("10: one", x.crossing(1), 3);
        CHECK.row("10: one", x, 14, 0);
        CHECK.corn("10: one", x, "24103");
        CHECK.belief("10: one", x, "753");
        CHECK.due("10: day", x.count(6), 1);
        CHECK.due("10: paid", x.count(7), 14);
        CHECK.due("10: three more", x.crossing(3), 2);
        CHECK.row("10: three more", x, 10 + 6 + 3, 1);
        CHECK.corn("10: three more", x, "01000");
        CHECK.belief("10: three more", x, "443");
        CHECK.due("10: in", x.count(4), 6);
        CHECK.due("10: out", x.count(13), 1);
        CHECK.due("10: day", x.count(6), 4);
        CHECK.due("10: paid", x.count(7), 33);
        x.rope(1, 2);
        CHECK.due("10: others grow", x.crossing(1), 2);
        CHECK.corn("10: others grow", x, "10011");
        CHECK.row("10: others grow", x, 1, 0);
        CHECK.due("10: none", x.crossing(0), 2);
        CHECK.row("10: none", x, 0, 0);
        CHECK.due("10: none is not undone", x.count(10), 4);
        CHECK.due("10: sixty", x.crossing(60), 2);
        CHECK.corn("10: nine at most", x, "90099");
    }

    private static void crossingWithNobody() {
        RopeRemembers x = Check.made("555", "05");
        x.rope(1, 1);
        CHECK.due("10: nobody", x.crossing(1), 0);
        CHECK.row("10: nobody", x, 0, 0);
        CHECK.corn("10: nobody", x, "656");
        x = Check.made("5", "");
        CHECK.due("10: no people", x.crossing(2), 0);
        CHECK.corn("10: no people", x, "5");
        CHECK.due("10: day", x.count(6), 2);
        x = Check.made("959", "90");
        x.rope(1, 1);
        x.crossing(1);
        CHECK.corn("10: nine at most", x, "949");
    }

    private static void crossingsOneByOne() {
        RopeRemembers x = Check.made("5", "95");
        Check.rule(x, "9-b");
        CHECK.due("10: out, in, out, in", x.crossing(4), 1);
        CHECK.row("10: out, in, out, in", x, 5 + 4, 4);
        CHECK.corn("10: out, in, out, in", x, "3");
    }

    private static void crossingAtOnce() {
        RopeRemembers x = Check.made("0", "90b;00a");
        Check.rule(x, "a");
        x.crossing(1);
        CHECK.belief("10: as it was ahead", x, "09");
        x.show(0);
        x.crossing(1);
        CHECK.due("10: signs are none", x.count(5), 0);
    }

    private static void crossingsRefused() {
        RopeRemembers x = made();
        x.crossing(1);
        CHECK.due("10: 61", x.crossing(61), -1);
        CHECK.due("10: -1", x.crossing(-1), -1);
        CHECK.row("10: refused leaves the row", x, 14, 0);
        CHECK.due("10: refused leaves the day", x.count(6), 1);
        CHECK.due("10: refused is not undone", x.count(10), 1);
    }

    private static void shows() {
        RopeRemembers x = made();
        CHECK.due("11: c", x.show(2), 4);
        CHECK.due("11: already", x.show(2), -2);
        CHECK.due("11: a", x.show(0), 5);
        CHECK.due("11: none such", x.show(3), -1);
        CHECK.due("11: none such", x.show(-1), -1);
        CHECK.due("11: none such", x.show(32), -1);
        CHECK.due("11: signs", x.count(5), 5);
        CHECK.due("11: two done", x.count(10), 2);
        x.crossing(1);
        CHECK.belief("11: by signs", x, "450");
        CHECK.due("11: gone", x.count(5), 0);
    }

    private static void glances() {
        RopeRemembers x = made();
        CHECK.due("12: c to a", x.glance(2, 0), 1);
        CHECK.due("12: c sees", x.person(2, 2), 1);
        CHECK.due("12: c to b", x.glance(2, 1), 2);
        CHECK.due("12: c away from a", x.glance(2, 0), 1);
        CHECK.due("12: c sees", x.person(2, 2), 2);
        CHECK.due("12: like ones", x.glance(1, 1), -1);
        CHECK.due("12: none such", x.glance(0, 3), -1);
        CHECK.due("12: none such", x.glance(3, 0), -1);
        CHECK.due("12: none such", x.glance(-1, 0), -1);
        CHECK.due("12: glances", x.count(14), 4);
        CHECK.due("12: done", x.count(10), 3);
        RopeRemembers y = Check.made("0", "11bc;11");
        CHECK.due("12: those who are there count", y.glance(0, 1), 0);
        Check.people(y, "11");
        CHECK.due("12: the third is seen when there", y.person(0, 2), 4);
    }

    private static void ropes() {
        RopeRemembers x = made();
        CHECK.due("13: 1 to 3", x.rope(1, 3), 3);
        CHECK.due("13: left", x.count(1), 1);
        CHECK.due("13: right", x.count(2), 3);
        CHECK.due("13: corn", x.count(8), 7);
        CHECK.due("13: 3 to 1", x.rope(3, 1), -2);
        CHECK.due("13: none such", x.rope(0, 5), -1);
        CHECK.due("13: none such", x.rope(-1, 2), -1);
        CHECK.due("13: none such first", x.rope(5, 0), -1);
        CHECK.due("13: left as it was", x.count(1), 1);
        CHECK.due("13: one", x.rope(4, 4), 1);
        CHECK.due("13: the same again", x.rope(4, 4), 1);
        CHECK.due("13: done", x.count(10), 3);
    }

    private static void sows() {
        RopeRemembers x = made();
        CHECK.due("14: sown", x.sow(3, 2), 2);
        CHECK.due("14: nine at most", x.sow(1, 9), 9);
        CHECK.due("14: nine already", x.sow(1, 1), 9);
        CHECK.corn("14", x, "39224");
        CHECK.due("14: 0", x.sow(0, 0), -1);
        CHECK.due("14: 10", x.sow(0, 10), -1);
        CHECK.due("14: greatest int", x.sow(0, Integer.MAX_VALUE), -1);
        CHECK.due("14: none such", x.sow(5, 1), -1);
        CHECK.due("14: none such", x.sow(-1, 1), -1);
        CHECK.corn("14: refused", x, "39224");
        CHECK.due("14: done", x.count(10), 3);
    }

    private static void weeks() {
        RopeRemembers x = made();
        CHECK.due("15: empty", Check.week(x, ""), 0);
        CHECK.row("15: empty", x, 0, 3);
        CHECK.due("15: empty is not undone", x.count(10), 0);
        CHECK.due("15: a week", Check.week(x, "-c1sagca+c3"), 6);
        CHECK.row("15: a week", x, 0, 2);
        CHECK.corn("15: a week", x, "01002");
        CHECK.due("15: right", x.count(2), 4);
        CHECK.due("15: day", x.count(6), 4);
        CHECK.due("15: sees", x.person(2, 2), 1);
        CHECK.due("15: as one", x.count(10), 1);
        CHECK.due("15: text is empty", x.count(12), 0);
        CHECK.due("15: c0 is an act", Check.week(x, "c0"), 1);
        CHECK.due("15: c0 is undone", x.count(10), 2);
    }

    private static void weeksCutShort() {
        RopeRemembers x = made();
        CHECK.due("15: sign twice", Check.week(x, "sasac9"), 1);
        CHECK.row("15: sign twice", x, 1, 3);
        CHECK.due("15: signs", x.count(5), 1);
        CHECK.due("15: day", x.count(6), 0);
        CHECK.due("15: nobody", Check.week(x, "sdc1"), 0);
        CHECK.row("15: nobody", x, 1, 3);
        CHECK.due("15: like ones", Check.week(x, "c1gbb"), 1);
        CHECK.row("15: like ones", x, 1, 2);
        CHECK.due("15: glance at nobody", Check.week(x, "gah"), 0);
        CHECK.due("15: rope at its end", Check.week(x, "+"), 0);
        CHECK.due("15: rope shorter", Check.week(x, "-----"), 4);
        CHECK.due("15: right", x.count(2), 0);
        CHECK.due("15: done ones", x.count(10), 3);
        x.rope(2, 3);
        CHECK.due("15: no shorter than one", Check.week(x, "--"), 1);
        CHECK.due("15: right is left", x.count(2), 2);
    }

    private static void weeksRefused() {
        RopeRemembers x = made();
        x.crossing(1);
        String[] texts = {"x", "c", "cx", "s", "si", "s1", "g", "ga", "gi", "ga1", "c1A", "c1 ", "c12", "saa", "c1+-s", "C1"};
        int[] due = {-1, -2, -2, -2, -2, -2, -2, -3, -2, -3, -3, -3, -3, -3, -6, -1};
        for (int i = 0; i < texts.length; i++) {
            CHECK.due("15: '" + texts[i] + "'", Check.week(x, texts[i]), due[i]);
            CHECK.due("15: text is empty", x.count(12), 0);
        }
        CHECK.due("15: nothing is done", x.count(6), 1);
        CHECK.due("15: nothing is undone", x.count(10), 1);
        CHECK.row("15: the row stays", x, 14, 0);
    }

    private static void weeksLong() {
        RopeRemembers x = made();
        String sixty = "-+-+-+-+-+-+-+-+-+-+-+-+-+-+-+-+-+-+-+-+-+-+-+-+-+-+-+-+-+-+";
        CHECK.due("15: 60 signs", Check.week(x, sixty), 60);
        CHECK.due("15: 61 signs", Check.week(x, sixty + "-"), -61);
        CHECK.due("15: 61 signs, an act half", Check.week(x, sixty.substring(0, 59) + "c1"), -61);
        CHECK.due("15: 60 signs, an act half", Check.week(x, sixty.substring(0, 59) + "c"), -61);
        CHECK.due("15: 62 signs, wrong ahead", Check.week(x, sixty.substring(0, 58) + "xc1+"), -59);
        CHECK.due("15: one done", x.count(10), 1);
    }

    private static void undoes() {
        RopeRemembers x = made();
        x.crossing(2);
        x.show(1);
        x.glance(2, 0);
        x.rope(1, 2);
        x.sow(0, 5);
        x.crossing(0);
        x.show(1);
        x.dig(1, 1);
        CHECK.due("16: sow", x.undo(), 4);
        CHECK.corn("16: sow", x, "13002");
        CHECK.due("16: rope", x.undo(), 3);
        CHECK.due("16: left", x.count(1), 0);
        CHECK.due("16: right", x.count(2), 4);
        CHECK.due("16: glance", x.undo(), 2);
        CHECK.due("16: sees", x.person(2, 2), 0);
        CHECK.due("16: show", x.undo(), 1);
        CHECK.due("16: signs", x.count(5), 0);
        CHECK.due("16: day", x.count(6), 2);
        CHECK.due("16: crossing", x.undo(), 0);
        CHECK.corn("16: crossing", x, "35204");
        CHECK.belief("16: crossing", x, "963");
        CHECK.due("16: day", x.count(6), 0);
        CHECK.due("16: paid", x.count(7), 0);
        CHECK.due("16: none", x.undo(), -1);
        CHECK.due("16: digs stay", x.count(9), 1);
        x.show(0);
        x.sheet(2, 3, 1, 0);
        x.undo();
        CHECK.belief("16: belief is as ahead of it", x, "963");
    }

    private static void undoOfTwelve() {
        RopeRemembers x = made();
        for (int i = 1; i <= 15; i++) {
            x.crossing(1);
            CHECK.due("16: twelve at most", x.count(10), Math.min(12, i));
        }
        for (int i = 11; i >= 0; i--) {
            CHECK.due("16: undo", x.undo(), i);
            CHECK.due("16: day", x.count(6), i + 3);
        }
        CHECK.due("16: none", x.undo(), -1);
        CHECK.due("16: the latest ones", x.count(6), 3);
        for (int i = 0; i < 5; i++) {
            x.crossing(1);
        }
        CHECK.due("16: again", x.undo(), 4);
        CHECK.due("16: day", x.count(6), 7);
    }

    private static void undoForgets() {
        RopeRemembers x = made();
        x.crossing(1);
        Check.people(x, "");
        CHECK.due("16: an empty people() does not", x.count(10), 1);
        Check.people(x, "1");
        CHECK.due("16: a refused people() does not", x.count(10), 1);
        Check.field(x, "");
        CHECK.due("16: a refused field() does not", x.count(10), 1);
        x.again(0);
        CHECK.due("16: a refused again() does not", x.count(10), 1);
        Check.rule(x, "b");
        CHECK.due("16: rule() does not", x.count(10), 1);
        Check.people(x, "11");
        CHECK.due("16: people() forgets", x.count(10), 0);
        x.crossing(1);
        x.keep(1);
        CHECK.due("16: keep() does not", x.count(10), 1);
        x.again(1);
        CHECK.due("16: again() forgets", x.count(10), 0);
        x.crossing(1);
        Check.field(x, "1");
        CHECK.due("16: field() forgets", x.count(10), 0);
    }

    private static void undoOfWeeks() {
        RopeRemembers x = made();
        Check.week(x, "-c1sagcac1++");
        CHECK.due("16: a week is one", x.undo(), 0);
        CHECK.corn("16: week", x, "35204");
        CHECK.belief("16: week", x, "963");
        CHECK.due("16: right", x.count(2), 4);
        CHECK.due("16: signs", x.count(5), 0);
        CHECK.due("16: sees", x.person(2, 2), 0);
        CHECK.due("16: paid", x.count(7), 0);
        Check.week(x, "+c1");
        CHECK.due("16: a week of nothing done", x.undo(), -1);
    }
}
