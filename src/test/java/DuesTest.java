/** Promises 36 to 40. */
public final class DuesTest {
    private static final Check CHECK = new Check("DuesTest");

    public static void main(String[] args) {
        dues();
        cheapest();
        yard();
        harvest();
        owed();
        CHECK.finish();
    }

    private static RopeRemembers made() {
        return Check.made("35204", "95bc;62c;31");
    }

    private static void dues() {
        RopeRemembers x = made();
        CHECK.due("36: ten", x.dues(10), 2);
        CHECK.row("36: ten", x, 2, 4, 1, 0, 3);
        CHECK.due("36: none", x.dues(0), 0);
        CHECK.row("36: none", x, 0, 0, 0, 0, 0);
        CHECK.due("36: 999", x.dues(999), 214);
        CHECK.row("36: 999", x, 214, 357, 143, 0, 285);
        x.rope(1, 2);
        CHECK.due("36: of the rope", x.dues(3), 2);
        CHECK.row("36: of the rope", x, 2, 1);
        CHECK.due("36: 1000", x.dues(1000), -1);
        CHECK.due("36: -1", x.dues(-1), -1);
        x.rope(3, 3);
        CHECK.due("36: no corn", x.dues(5), -2);
        CHECK.due("36: another v first", x.dues(1000), -1);
        CHECK.row("36: no row is told", x, 2, 1);
        x = Check.made("1111111111111111", "");
        CHECK.due("36: sixteen", x.dues(18), 2);
        CHECK.row("36: of like ones the first", x, 2, 2, 1, 1, 1, 1, 1, 1, 1, 1, 1, 1, 1, 1, 1, 1);
    }

    private static void cheapest() {
        RopeRemembers x = made();
        CHECK.due("37: one", x.cheapest(1), 0);
        CHECK.row("37: one", x, 3, 3);
        CHECK.due("37: two", x.cheapest(2), 2);
        CHECK.row("37: two", x, 2, 3);
        CHECK.due("37: three", x.cheapest(3), 6);
        CHECK.row("37: three", x, 2, 4);
        CHECK.due("37: all", x.cheapest(5), 14);
        CHECK.row("37: all", x, 0, 4);
        CHECK.due("37: six", x.cheapest(6), -2);
        CHECK.due("37: many", x.cheapest(Integer.MAX_VALUE), -2);
        CHECK.due("37: 0", x.cheapest(0), -1);
        CHECK.due("37: least int", x.cheapest(Integer.MIN_VALUE), -1);
        CHECK.row("37: no row is told", x, 0, 4);
        x = Check.made("2121", "");
        CHECK.due("37: of like ones the first", x.cheapest(2), 3);
        CHECK.row("37: of like ones the first", x, 0, 1);
    }

    private static void yard() {
        RopeRemembers x = made();
        CHECK.due("38: none", x.yard(0), 0);
        CHECK.row("38: none", x, 0, 0);
        CHECK.due("38: two", x.yard(2), 7);
        CHECK.row("38: two", x, 17, 24);
        CHECK.due("38: sixty", x.yard(60), 4 + 3 + 2 + 1);
        CHECK.row("38: sixty", x, 24, 34);
        CHECK.due("38: 61", x.yard(61), -1);
        CHECK.due("38: -1", x.yard(-1), -1);
        CHECK.due("38: the rope stays", x.count(2), 4);
        x.rope(2, 2);
        CHECK.due("38: one furrow", x.yard(1), -2);
        CHECK.due("38: another n first", x.yard(61), -1);
        CHECK.row("38: no row is told", x, 24, 34);
    }

    private static void harvest() {
        RopeRemembers x = made();
        CHECK.due("39: at once", x.harvest(3), 0);
        CHECK.row("39: at once", x, 14);
        x.rope(3, 3);
        CHECK.due("39: others grow", x.harvest(60), 7);
        CHECK.row("39: others grow", x, 36);
        CHECK.due("39: of three", x.harvest(3), 3);
        CHECK.row("39: of three", x, 26);
        CHECK.due("39: none", x.harvest(0), 0);
        CHECK.due("39: 61", x.harvest(61), -1);
        CHECK.due("39: -1", x.harvest(-1), -1);
        x.rope(1, 1);
        CHECK.due("39: of equal ones the first", x.harvest(60), 9);
        CHECK.row("39: of equal ones the first", x, 36);
    }

    private static void owed() {
        RopeRemembers x = made();
        CHECK.due("40: two", x.owed(1, 2), 9);
        CHECK.row("40: two", x, 2, 3);
        CHECK.due("40: sixty", x.owed(1, 60), 15);
        CHECK.row("40: sixty", x, 5, 0);
        CHECK.due("40: none", x.owed(1, 0), 0);
        CHECK.row("40: none", x, 0, 5);
        CHECK.due("40: bare", x.owed(3, 9), 0);
        CHECK.row("40: bare", x, 0, 0);
        x.rope(0, 2);
        CHECK.due("40: outside", x.owed(4, 3), 0);
        CHECK.row("40: outside", x, 0, 7);
        CHECK.due("40: other furrow", x.owed(5, 1), -1);
        CHECK.due("40: other furrow", x.owed(-1, 1), -1);
        CHECK.due("40: 61", x.owed(1, 61), -1);
        CHECK.due("40: -1", x.owed(1, -1), -1);
        x = Check.made("5", "95");
        Check.rule(x, "9-b");
        CHECK.due("40: only if somebody is in", x.owed(0, 4), 9);
        CHECK.row("40: only if somebody is in", x, 2, 3);
    }
}
