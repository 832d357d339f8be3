/** Promises 46 to 49. */
public final class KeptTest {
    private static final Check CHECK = new Check("KeptTest");

    public static void main(String[] args) {
        keepAndAgain();
        againRefused();
        counts();
        rows();
        CHECK.finish();
    }

    private static RopeRemembers made() {
        return Check.made("35204", "95bc;62c;31");
    }

    private static void keepAndAgain() {
        RopeRemembers x = made();
        CHECK.due("46: 0", x.keep(0), true);
        x.crossing(2);
        x.show(1);
        x.glance(2, 0);
        x.rope(1, 2);
        CHECK.due("46: 1", x.keep(1), true);
        CHECK.due("47: 0", x.again(0), true);
        CHECK.corn("47: 0", x, "35204");
        CHECK.belief("47: 0", x, "963");
        CHECK.due("47: right", x.count(2), 4);
        CHECK.due("47: signs", x.count(5), 0);
        CHECK.due("47: day", x.count(6), 0);
        CHECK.due("47: paid", x.count(7), 0);
        CHECK.due("47: sees", x.person(2, 2), 0);
        CHECK.due("47: undo is forgotten", x.undo(), -1);
        x.crossing(1);
        CHECK.due("47: 1", x.again(1), true);
        CHECK.corn("47: 1", x, "13002");
        CHECK.belief("47: 1", x, "643");
        CHECK.due("47: left", x.count(1), 1);
        CHECK.due("47: right", x.count(2), 2);
        CHECK.due("47: signs", x.count(5), 2);
        CHECK.due("47: day", x.count(6), 2);
        CHECK.due("47: paid", x.count(7), 24);
        CHECK.due("47: sees", x.person(2, 2), 1);
        CHECK.due("47: 0 once more", x.again(0), true);
        x.crossing(1);
        CHECK.due("46: 0 anew", x.keep(0), true);
        x.undo();
        CHECK.due("47: 0 anew", x.again(0), true);
        CHECK.due("47: day", x.count(6), 1);
    }

    private static void againRefused() {
        RopeRemembers x = made();
        CHECK.due("46: 2", x.keep(2), false);
        CHECK.due("46: -1", x.keep(-1), false);
        CHECK.due("47: nothing kept", x.again(0), false);
        CHECK.due("47: 2", x.again(2), false);
        CHECK.due("47: -1", x.again(-1), false);
        CHECK.due("47: 32", x.again(32), false);
        x.keep(0);
        CHECK.due("47: nothing kept under 1", x.again(1), false);
        Check.people(x, "");
        CHECK.due("47: nobody came", x.again(0), true);
        Check.people(x, "x");
        CHECK.due("47: nobody came, refused", x.again(0), true);
        Check.people(x, "11");
        CHECK.due("47: people came", x.again(0), false);
        x.keep(1);
        CHECK.due("47: kept since", x.again(1), true);
        CHECK.due("47: not the other", x.again(0), false);
        Check.field(x, "x");
        CHECK.due("47: field refused", x.again(1), true);
        Check.field(x, "35204");
        CHECK.due("47: field came", x.again(1), false);
    }

    private static void counts() {
        RopeRemembers x = Check.made("352", "95bc;26c;31");
        x.crossing(1);
        x.rope(1, 2);
        x.show(2);
        x.dig(0, 0);
        x.sign(0);
        x.mean();
        int[] want = {3, 1, 2, 3, 5, 4, 1, 10, 5, 1, 3, 2, 4, 2, 3};
        for (int what = 0; what < want.length; what++) {
            CHECK.due("48: count(" + what + ")", x.count(what), want[what]);
        }
        CHECK.due("48: 15", x.count(15), -1);
        CHECK.due("48: -1", x.count(-1), -1);
        CHECK.due("48: greatest int", x.count(Integer.MAX_VALUE), -1);
    }

    private static void rows() {
        RopeRemembers x = made();
        CHECK.row("49: none", x);
        x.mean();
        CHECK.row("49: two", x, 6, 1);
        x.settles();
        CHECK.row("49: one", x, 7);
        CHECK.noRow("49", x, Integer.MIN_VALUE);
        CHECK.noRow("49", x, Integer.MAX_VALUE);
        x.unlike();
        CHECK.row("49: none again", x);
        x.harvest(0);
        x.show(0);
        x.undo();
        x.count(3);
        x.sign(1);
        x.end(0);
        x.forget();
        x.keep(0);
        x.again(0);
        Check.field(x, "12");
        Check.people(x, "11");
        Check.rule(x, "b");
        x.furrow(0, 0);
        x.person(0, 4);
        x.sheet(2, 1, 1, 1);
        x.glance(0, 1);
        x.rope(0, 1);
        x.sow(0, 1);
        x.dig(0, 1);
        CHECK.row("49: told last by a call that says so", x, 14);
    }
}
