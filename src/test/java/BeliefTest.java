/** Promises 17 to 23. */
public final class BeliefTest {
    private static final Check CHECK = new Check("BeliefTest");

    public static void main(String[] args) {
        later();
        settles();
        settlesLate();
        settlesAtTwoHundred();
        leaves();
        leavesLate();
        signs();
        signsBesides();
        signsToAll();
        empties();
        weakest();
        weakestAndBack();
        mean();
        CHECK.finish();
    }

    private static RopeRemembers made() {
        return Check.made("35204", "95bc;62c;31");
    }

    private static void later() {
        RopeRemembers x = made();
        CHECK.due("17: now", x.later(0), 7);
        CHECK.row("17: now", x, 18, 0);
        CHECK.due("17: in four", x.later(4), 6);
        CHECK.row("17: in four", x, 11, 33);
        CHECK.due("17: in 99", x.later(99), 6);
        CHECK.row("17: in 99", x, 11, 34);
        CHECK.due("17: 100", x.later(100), -1);
        CHECK.due("17: -1", x.later(-1), -1);
        CHECK.row("17: refused leaves the row", x, 11, 34);
        CHECK.due("17: changes nothing", x.count(6), 0);
        CHECK.corn("17: changes nothing", x, "35204");
        CHECK.belief("17: changes nothing", x, "963");
        x.show(2);
        CHECK.due("17: by a sign", x.later(1), 3);
        CHECK.row("17: by a sign", x, 12, 14);
        CHECK.due("17: the sign stays", x.count(5), 4);
        CHECK.due("17: no people", new RopeRemembers().later(9), 0);
    }

    private static void settles() {
        RopeRemembers x = made();
        CHECK.due("18: in four", x.settles(), 4);
        CHECK.row("18: in four", x, 7);
        x.show(0);
        CHECK.due("18: signs left aside", x.settles(), 4);
        CHECK.row("18: signs left aside", x, 7);
        CHECK.due("18: the sign stays", x.count(5), 1);
        CHECK.due("18: no people", new RopeRemembers().settles(), 0);
        Check.rule(x, "9-b");
        CHECK.due("18: there and back", x.settles(), 0);
        CHECK.row("18: there and back", x, 14);
        Check.rule(x, "d");
        CHECK.due("18: by day", x.settles(), 1);
        CHECK.row("18: by day", x, 7);
        Check.rule(x, "0");
        CHECK.due("18: at once", x.settles(), 1);
        CHECK.row("18: at once", x, 7);
    }

    private static void settlesLate() {
        String round = "b+1-(b=e)*(e+1)";
        RopeRemembers x = Check.made("0", "03;04");
        Check.rule(x, round);
        CHECK.due("18: 4, 5 and 7", x.settles(), 0);
        CHECK.row("18: 4, 5 and 7", x, 140);
        x = Check.made("0", "07;02");
        Check.rule(x, round);
        CHECK.due("18: 8, 3 and 7", x.settles(), 0);
        CHECK.row("18: 8, 3 and 7", x, 168);
        x = Check.made("0", "08;03");
        Check.rule(x, round);
        x.mean();
        CHECK.due("18: 9, 4 and 7", x.settles(), -2);
        CHECK.row("18: no row is told", x, 0, 1);
    }

    /** One behind the other they lose 1 a week, on the day that d is 0: in 28 weeks all have 0. */
    private static RopeRemembers slow(int days) {
        RopeRemembers x = Check.made("0", "90;90a;90b;10c");
        Check.rule(x, "b");
        x.crossing(days);
        Check.rule(x, "b-(d=0)*((n=0)+(a=0)>0)");
        return x;
    }

    private static void settlesAtTwoHundred() {
        RopeRemembers x = slow(4);
        CHECK.due("18: 200 together", x.settles(), 193);
        CHECK.row("18: 200 together", x, 7);
        CHECK.due("18: 201 together", slow(3).settles(), -2);
    }

    private static void leaves() {
        RopeRemembers x = made();
        CHECK.due("19: a", x.leaves(0), 4);
        CHECK.row("19: a", x, 4);
        CHECK.due("19: c", x.leaves(2), -2);
        CHECK.row("19: no row is told", x, 4);
        CHECK.due("19: none such", x.leaves(3), -1);
        CHECK.due("19: none such", x.leaves(-1), -1);
        x.show(2);
        CHECK.due("19: c by a sign", x.leaves(2), 1);
        CHECK.row("19: c by a sign", x, 0);
        RopeRemembers y = Check.made("0", "03");
        Check.rule(y, "b+1");
        CHECK.due("19: comes in", y.leaves(0), 3);
        CHECK.row("19: comes in", y, 3);
    }

    private static void leavesLate() {
        RopeRemembers x = Check.made("0", "09");
        Check.rule(x, "b");
        x.crossing(4);
        Check.rule(x, "b+(d=0)");
        CHECK.due("19: in 60", x.leaves(0), 60);
        CHECK.row("19: in 60", x, 9);
        x.undo();
        Check.rule(x, "b");
        x.crossing(3);
        Check.rule(x, "b+(d=0)");
        CHECK.due("19: not in 60", x.leaves(0), -2);
    }

    private static void signs() {
        RopeRemembers x = made();
        CHECK.due("20: nobody told", x.signs(0, 1), 0);
        CHECK.row("20: nobody told", x, 0);
        CHECK.due("20: a", x.signs(1, 1), 1);
        CHECK.row("20: a", x, 1);
        CHECK.due("20: a gets out by itself", x.signs(1, 4), 0);
        CHECK.row("20: a gets out by itself", x, 0);
        CHECK.due("20: b not in one", x.signs(2, 1), -2);
        CHECK.row("20: no row is told", x, 0);
        CHECK.due("20: b in two", x.signs(2, 2), 2);
        CHECK.row("20: b in two", x, 6);
        CHECK.due("20: none such", x.signs(8, 1), -1);
        CHECK.due("20: none such", x.signs(-1, 1), -1);
        CHECK.due("20: 0", x.signs(1, 0), -1);
        CHECK.due("20: 21", x.signs(1, 21), -1);
        CHECK.due("20: changes nothing", x.count(5), 0);
    }

    private static void signsBesides() {
        RopeRemembers x = Check.made("0", "95;95;95ab");
        Check.rule(x, "9-g*9-x*9");
        CHECK.due("20: the least of as few", x.signs(4, 2), 1);
        CHECK.row("20: the least of as few", x, 1);
        CHECK.due("20: two", x.signs(5, 1), 2);
        CHECK.row("20: two", x, 5);
        CHECK.due("20: back in again", x.signs(4, 3), -2);
        x.show(1);
        CHECK.due("20: besides", x.signs(4, 2), 0);
        CHECK.row("20: besides", x, 0);
        CHECK.due("20: besides, two", x.signs(7, 1), 2);
        CHECK.row("20: besides, two", x, 5);
        Check.rule(x, "(d=0)*g*9");
        CHECK.due("20: a sign may bring one in", x.signs(2, 1), -2);
        CHECK.due("20: the others are out", x.signs(5, 1), 0);
        CHECK.row("20: the others are out", x, 0);
    }

    private static void signsToAll() {
        RopeRemembers x = Check.made("0", "11;11;11;11;11;11;11;11");
        CHECK.due("20: all eight", x.signs(255, 1), 8);
        CHECK.row("20: all eight", x, 255);
        CHECK.due("21: all eight", x.empties(1), 8);
        CHECK.row("21: all eight", x, 255);
    }

    private static void empties() {
        RopeRemembers x = made();
        CHECK.due("21: not in one", x.empties(1), -2);
        CHECK.due("21: in three", x.empties(3), 2);
        CHECK.row("21: in three", x, 6);
        CHECK.due("21: 0", x.empties(0), -1);
        CHECK.due("21: 21", x.empties(21), -1);
        x = Check.made("0", "95;95");
        Check.rule(x, "9-g*9");
        CHECK.due("21: both", x.empties(1), 2);
        CHECK.row("21: both", x, 3);
        CHECK.due("21: behind some of these", x.empties(20), 2);
        x.show(0);
        CHECK.due("21: besides", x.empties(1), 1);
        CHECK.row("21: besides", x, 2);
        x = Check.made("0", "05");
        CHECK.due("21: empty stays", x.empties(1), 0);
        CHECK.row("21: empty stays", x, 0);
        Check.rule(x, "9-b");
        CHECK.due("21: empty now does not count", x.empties(1), -2);
        CHECK.due("21: empty in two", x.empties(2), 0);
    }

    private static void weakest() {
        RopeRemembers x = made();
        CHECK.due("22: a", x.weakest(1), 0);
        CHECK.row("22: a", x, 2, 3);
        x.show(0);
        CHECK.due("22: c", x.weakest(1), 2);
        CHECK.row("22: c", x, 1, 2);
        x.show(1);
        x.show(2);
        CHECK.due("22: nobody", x.weakest(1), -2);
        CHECK.row("22: no row is told", x, 1, 2);
        CHECK.due("22: 0", x.weakest(0), -1);
        CHECK.due("22: 21", x.weakest(21), -1);
        CHECK.due("22: no people", new RopeRemembers().weakest(20), -2);
        CHECK.due("22: another n first", new RopeRemembers().weakest(0), -1);
    }

    private static void weakestAndBack() {
        RopeRemembers x = Check.made("0", "55");
        Check.rule(x, "b-1+g");
        CHECK.due("22: held for one", x.weakest(1), 0);
        CHECK.row("22: held for one", x, 1, 0);
        CHECK.due("22: held no longer", x.weakest(2), 0);
        CHECK.row("22: held no longer", x, 0, 0);
        Check.rule(x, "9-b");
        CHECK.due("22: out and in", x.weakest(2), 0);
        CHECK.row("22: out and in", x, 1, 1);
        CHECK.due("44: out and in", Check.law(x, "b"), 0);
        CHECK.row("44: out and in", x, 1, 1);
        CHECK.due("44: in and out", Check.law(x, "9-b-(d>8)"), 0);
        CHECK.row("44: in and out", x, 1, 1);
        x = Check.made("0", "03");
        Check.rule(x, "d");
        CHECK.due("22: by days alone", x.weakest(5), 0);
        CHECK.row("22: by days alone", x, 1, 1);
    }

    private static void mean() {
        CHECK.due("23: none", new RopeRemembers().mean(), 0);
        RopeRemembers x = Check.made("0", "95;62;33;29");
        CHECK.due("23: three", x.mean(), 3);
        CHECK.row("23: three", x, 6, 1);
        x = Check.made("0", "95;62;99;83");
        CHECK.due("23: four", x.mean(), 4);
        CHECK.row("23: four", x, 8, 1);
        x = Check.made("0", "95;62;15");
        CHECK.due("23: two", x.mean(), 2);
        CHECK.row("23: two", x, 15, 2);
        x = Check.made("0", "00;10;10;00");
        CHECK.due("23: lowest terms", x.mean(), 4);
        CHECK.row("23: lowest terms", x, 1, 2);
        x = Check.made("0", "00");
        CHECK.due("23: of 0", x.mean(), 1);
        CHECK.row("23: of 0", x, 0, 1);
        x = Check.made("0", "49");
        CHECK.due("23: all out", x.mean(), 0);
        CHECK.row("23: all out", x, 0, 1);
    }
}
