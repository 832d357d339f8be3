/** Promises 31 to 35. */
public final class WaterTest {
    private static final Check CHECK = new Check("WaterTest");

    public static void main(String[] args) {
        dig();
        courses();
        sure();
        next();
        CHECK.finish();
    }

    private static void dig() {
        RopeRemembers x = Check.made("00000", "");
        CHECK.due("31: other furrow", x.dig(5, 1), -1);
        CHECK.due("31: other furrow", x.dig(-1, 1), -1);
        CHECK.due("31: other is", x.dig(0, 2), -1);
        CHECK.due("31: other is", x.dig(0, -1), -1);
        CHECK.due("31: none", x.count(9), 0);
        for (int i = 1; i <= 12; i++) {
            CHECK.due("31: dig", x.dig(2, 1), i);
        }
        CHECK.due("31: thirteenth", x.dig(2, 1), -1);
        CHECK.due("31: twelve", x.count(9), 12);
        CHECK.due("32: forget", x.forget(), 12);
        CHECK.due("32: forgotten", x.count(9), 0);
        CHECK.due("32: all fit", x.courses(), 15);
        CHECK.due("32: none to forget", x.forget(), 0);
        CHECK.due("31: anew", x.dig(0, 0), 1);
        CHECK.due("31: not undone", x.undo(), -1);
    }

    private static void courses() {
        RopeRemembers x = Check.made("0000000000000000", "");
        CHECK.due("33: all", x.courses(), 136);
        CHECK.row("33: all", x, 0, 0);
        x.dig(3, 1);
        CHECK.due("33: with 3", x.courses(), 52);
        CHECK.row("33: with 3", x, 3, 3);
        x.dig(5, 1);
        CHECK.due("33: with 3 and 5", x.courses(), 44);
        CHECK.row("33: with 3 and 5", x, 3, 5);
        x.dig(8, 0);
        CHECK.due("33: without 8", x.courses(), 12);
        x.dig(0, 0);
        CHECK.due("33: without 0", x.courses(), 9);
        CHECK.row("33: without 0", x, 3, 5);
        x.dig(4, 0);
        CHECK.due("33: without 4", x.courses(), 0);
        CHECK.row("33: without 4", x);
        x = Check.made("00000", "");
        x.dig(0, 0);
        x.dig(2, 0);
        CHECK.due("33: bare ones", x.courses(), 4);
        CHECK.row("33: of as narrow ones the first", x, 1, 1);
    }

    private static void sure() {
        RopeRemembers x = Check.made("00000", "");
        CHECK.due("34: nothing dug", x.sure(), 0);
        CHECK.row("34: nothing dug", x, 0);
        x.dig(1, 1);
        x.dig(3, 1);
        CHECK.due("34: between", x.sure(), 14);
        CHECK.row("34: between", x, 0);
        x.dig(4, 0);
        CHECK.due("34: bare", x.sure(), 14);
        CHECK.row("34: bare", x, 16);
        x.dig(2, 0);
        CHECK.due("34: no course", x.sure(), 0);
        CHECK.row("34: no course", x, 0);
        x.forget();
        x.dig(3, 1);
        x.dig(1, 0);
        CHECK.due("34: beyond a bare one", x.sure(), 8);
        CHECK.row("34: beyond a bare one", x, 3);
    }

    private static void next() {
        RopeRemembers x = Check.made("00000", "");
        CHECK.due("35: nothing dug", x.next(), 1);
        CHECK.row("35: nothing dug", x, 8);
        x.dig(2, 1);
        CHECK.due("35: with 2", x.next(), 0);
        CHECK.row("35: with 2", x, 6);
        x.dig(0, 0);
        CHECK.due("35: without 0", x.next(), 1);
        CHECK.row("35: without 0", x, 3);
        x.dig(1, 0);
        x.dig(3, 0);
        CHECK.due("35: one is left", x.next(), 0);
        CHECK.row("35: one is left", x, 1);
        x.dig(2, 0);
        CHECK.due("35: none fits", x.next(), -2);
        CHECK.row("35: no row is told", x, 1);
    }
}
