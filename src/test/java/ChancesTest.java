/** Promises 41 to 45. */
public final class ChancesTest {
    private static final Check CHECK = new Check("ChancesTest");

    public static void main(String[] args) {
        floods();
        twice();
        rests();
        law();
        years();
        yearsWithoutPeople();
        CHECK.finish();
    }

    private static void floods() {
        RopeRemembers x = new RopeRemembers();
        CHECK.due("41: one of two", x.floods(2, 1, 5), 0);
        CHECK.row("41: one of two", x, 3, 4);
        CHECK.due("41: none or more", x.floods(12, 0, 3), 0);
        CHECK.row("41: none or more", x, 1, 1);
        CHECK.due("41: more than days", x.floods(2, 3, 5), 0);
        CHECK.row("41: more than days", x, 0, 1);
        x.floods(3, 2, 1);
        CHECK.row("41: two of three", x, 7, 250);
        x.floods(12, 12, 1);
        CHECK.row("41: twelve of twelve", x, 1, 1000000000000L);
        x.floods(12, 12, 9);
        CHECK.row("41: twelve of twelve", x, 282429536481L, 1000000000000L);
        x.floods(5, 1, 0);
        CHECK.row("41: never", x, 0, 1);
        x.floods(5, 0, 0);
        CHECK.row("41: never, none or more", x, 1, 1);
        x.floods(5, 5, 10);
        CHECK.row("41: always", x, 1, 1);
        CHECK.due("41: 0 days", x.floods(0, 0, 0), -1);
        CHECK.due("41: 13 days", x.floods(13, 0, 0), -1);
        CHECK.due("41: k -1", x.floods(1, -1, 0), -1);
        CHECK.due("41: k 13", x.floods(1, 13, 0), -1);
        CHECK.due("41: p -1", x.floods(1, 1, -1), -1);
        CHECK.due("41: p 11", x.floods(1, 1, 11), -1);
        CHECK.row("41: refused leaves the row", x, 1, 1);
    }

    private static void twice() {
        RopeRemembers x = new RopeRemembers();
        CHECK.due("42: one day", x.twice(1, 5), 0);
        CHECK.row("42: one day", x, 0, 1);
        x.twice(3, 5);
        CHECK.row("42: three days", x, 3, 8);
        x.twice(3, 1);
        CHECK.row("42: three days", x, 19, 1000);
        x.twice(4, 5);
        CHECK.row("42: four days", x, 1, 2);
        x.twice(12, 5);
        CHECK.row("42: twelve days", x, 4096 - 377, 4096);
        x.twice(12, 10);
        CHECK.row("42: always", x, 1, 1);
        x.twice(1, 10);
        CHECK.row("42: always, one day", x, 0, 1);
        x.twice(12, 0);
        CHECK.row("42: never", x, 0, 1);
        CHECK.due("42: 0 days", x.twice(0, 1), -1);
        CHECK.due("42: 13 days", x.twice(13, 1), -1);
        CHECK.due("42: p -1", x.twice(1, -1), -1);
        CHECK.due("42: p 11", x.twice(1, 11), -1);
    }

    private static void rests() {
        RopeRemembers x = new RopeRemembers();
        CHECK.due("43: 0 and 0", x.rests(0, 0), 10);
        CHECK.row("43: 0 and 0", x, 0, 0);
        CHECK.due("43: 20 and 9", x.rests(20, 9), 1);
        CHECK.row("43: 20 and 9", x, 9, 9);
        CHECK.due("43: 20 and 0", x.rests(20, 0), 10);
        CHECK.row("43: 20 and 0", x, 0, 0);
        CHECK.due("43: 5 and 3", x.rests(5, 3), 23);
        CHECK.row("43: 5 and 3", x, 3, 3);
        CHECK.due("43: v 21", x.rests(21, 0), -1);
        CHECK.due("43: v -1", x.rests(-1, 0), -1);
        CHECK.due("43: f 10", x.rests(0, 10), -1);
        CHECK.due("43: f -1", x.rests(0, -1), -1);
        CHECK.row("43: refused leaves the row", x, 3, 3);
    }

    private static void law() {
        RopeRemembers x = Check.made("35204", "95bc;62c;31");
        CHECK.due("44: nobody stays", Check.law(x, "0"), -2);
        CHECK.row("44: nobody stays", x, 0, 2);
        CHECK.due("44: all stay", Check.law(x, "9"), 1);
        CHECK.row("44: all stay", x, 3, 2);
        CHECK.due("44: none", Check.law(x, ""), 0);
        CHECK.row("44: none", x, 2, 2);
        CHECK.due("44: changes nothing", x.person(0, 4), 7);
        CHECK.belief("44: changes nothing", x, "963");
        Check.rule(x, "0");
        CHECK.due("44: none for nobody", Check.law(x, ""), 2);
        CHECK.row("44: none for nobody", x, 2, 0);
        CHECK.due("44: refused", Check.law(x, "b+"), -10002);
        CHECK.due("44: text is empty", x.count(12), 0);
        CHECK.row("44: refused leaves the row", x, 2, 0);
        CHECK.due("44: the rule stays", x.person(0, 4), 0);
        // In ten crossings d is 2 twice, but 3 only once.
        Check.rule(x, "b-(d=3)");
        x.sheet(2, 3, 5, -2);
        CHECK.due("44: ten crossings", Check.law(x, "b-(d=2)"), -1);
        CHECK.row("44: ten crossings", x, 0, 1);
        x.show(0);
        CHECK.due("44: by signs", Check.law(x, "b+g*9"), 2);
        CHECK.row("44: by signs", x, 3, 1);
    }

    private static int drawn;

    private static int draw(int n) {
        drawn = drawn * 1103515245 + 12345;
        return (int) ((drawn & 0xFFFFFFFFL) / 65536 % n);
    }

    /** The same years, done call by call on another object. */
    private static long[] lived(RopeRemembers x, int seed, int n) {
        drawn = seed;
        int paid = x.count(7);
        for (int i = 0; i < n; i++) {
            int what = draw(4);
            if (what < 2) {
                x.crossing(1);
            } else if (x.count(3) > 0 && what == 2) {
                x.show(draw(x.count(3)));
            } else if (x.count(3) > 0) {
                int one = draw(x.count(3));
                x.glance(one, draw(x.count(3)));
            }
        }
        int belief = 0;
        for (int i = 0; i < x.count(3); i++) {
            belief += x.person(i, 0);
        }
        return new long[] {Integer.bitCount(x.count(4)), belief, x.count(7) - paid};
    }

    private static void years() {
        int[] seeds = {0, 1, -1, 12345, Integer.MIN_VALUE, Integer.MAX_VALUE, 77, 2026};
        int[] times = {1, 2, 5, 20, 37, 59, 60};
        for (int seed : seeds) {
            for (int n : times) {
                RopeRemembers x = Check.made("35204", "95bc;62c;31");
                x.show(0);
                x.crossing(1);
                long[] due = lived(x, seed, n);
                x = Check.made("35204", "95bc;62c;31");
                x.show(0);
                x.crossing(1);
                CHECK.due("45: years(" + seed + ", " + n + ")", x.years(seed, n), due[0]);
                CHECK.row("45: years(" + seed + ", " + n + ")", x, due[1], due[2]);
                CHECK.due("45: a question", x.count(6), 1);
                CHECK.due("45: a question", x.count(14), 3);
                CHECK.due("45: a question", x.count(5), 0);
                CHECK.due("45: a question", x.count(7), 14);
            }
        }
        RopeRemembers x = new RopeRemembers();
        CHECK.due("45: 0", x.years(1, 0), -1);
        CHECK.due("45: 61", x.years(1, 61), -1);
        CHECK.due("45: -1", x.years(1, -1), -1);
        CHECK.row("45: refused leaves the row", x);
    }

    private static void yearsWithoutPeople() {
        RopeRemembers x = Check.made("55", "");
        CHECK.due("45: nobody", x.years(5, 60), 0);
        CHECK.row("45: nobody", x, 0, 0);
    }
}
