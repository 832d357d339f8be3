/**
 * Terms 2: "Questions change nothing", "Refused calls .. change nothing but THE TEXT, which a call
 * that reads it empties": asked one behind another, with arguments inside and outside of all limits.
 */
public final class QuestionsTest {
    private static final Check CHECK = new Check("QuestionsTest");
    private static final int QUESTIONS = 26;
    /** So few that an object stays under 512 calls. */
    private static final int AT_ONCE = 5;
    private static final int[] NUMBERS = {0, 1, 2, 3, 7, 8, 9, 10, 12, 13, 16, 20, 21, 60, 61, 99, 100, 255, 256, 999, 1000,
        -1, -2, Integer.MIN_VALUE, Integer.MAX_VALUE};

    public static void main(String[] args) {
        questions();
        questionsAskedTwice();
        textStays();
        rowIsToldOnlyByThoseThatSaySo();
        CHECK.finish();
    }

    /** Something of all that can be changed. */
    private static RopeRemembers made() {
        RopeRemembers x = Check.made("35204", "95bc;62c;31;47ah");
        Check.rule(x, "(b+a+1)/2-g*3-(d=2)");
        x.keep(0);
        x.crossing(2);
        x.show(1);
        x.glance(3, 2);
        x.rope(1, 3);
        x.sow(2, 4);
        x.dig(1, 1);
        x.dig(4, 0);
        return x;
    }

    private static String asked(RopeRemembers x, int which, int a, int b, int c) {
        switch (which) {
            case 0:
                return "later " + x.later(a);
            case 1:
                return "settles " + x.settles();
            case 2:
                return "leaves " + x.leaves(a);
            case 3:
                return "signs " + x.signs(a, b);
            case 4:
                return "empties " + x.empties(a);
            case 5:
                return "weakest " + x.weakest(a);
            case 6:
                return "mean " + x.mean();
            case 7:
                return "depends " + x.depends(a);
            case 8:
                return "cut " + x.cut(a, b);
            case 9:
                return "faces " + x.faces();
            case 10:
                return "knows " + x.knows(a);
            case 11:
                return "circle " + x.circle();
            case 12:
                return "spreads " + x.spreads(a);
            case 13:
                return "unlike " + x.unlike();
            default:
                return askedMore(x, which, a, b, c);
        }
    }

    private static String askedMore(RopeRemembers x, int which, int a, int b, int c) {
        switch (which) {
            case 14:
                return "courses " + x.courses();
            case 15:
                return "sure " + x.sure();
            case 16:
                return "next " + x.next();
            case 17:
                return "dues " + x.dues(a);
            case 18:
                return "cheapest " + x.cheapest(a);
            case 19:
                return "yard " + x.yard(a);
            case 20:
                return "harvest " + x.harvest(a);
            case 21:
                return "owed " + x.owed(a, b);
            case 22:
                return "floods " + x.floods(a, b, c);
            case 23:
                return "twice " + x.twice(a, b);
            case 24:
                return "rests " + x.rests(a, b);
            default:
                return "years " + x.years(a, b);
        }
    }

    /** Every question with many numbers: all stays, what is kept and what can be undone too. */
    private static void questions() {
        String before = Check.state(made());
        for (int which = 0; which < QUESTIONS; which++) {
            for (int from = 0; from < NUMBERS.length * NUMBERS.length; from += AT_ONCE) {
                RopeRemembers x = made();
                for (int i = from; i < from + AT_ONCE; i++) {
                    question(x, which, i, before);
                }
                stillThere(x, which);
            }
        }
    }

    private static void question(RopeRemembers x, int which, int i, String before) {
        int a = NUMBERS[i % NUMBERS.length];
        int b = NUMBERS[i / NUMBERS.length % NUMBERS.length];
        int c = NUMBERS[i * 3 % NUMBERS.length];
        String row = Check.rowOf(x);
        String told = asked(x, which, a, b, c);
        CHECK.same(told + ": a question changes nothing", Check.state(x), before);
        if (told.endsWith(" -1")) {
            CHECK.same(told + ": refused leaves the row", Check.rowOf(x), row);
        }
    }

    private static void stillThere(RopeRemembers x, int which) {
        for (int left = 4; left >= 0; left--) {
            CHECK.due("behind question " + which + " undo", x.undo(), left);
        }
        CHECK.corn("behind question " + which, x, "35204");
        CHECK.belief("behind question " + which, x, "9634");
        x.crossing(1);
        CHECK.due("behind question " + which + " again", x.again(0), true);
        CHECK.belief("behind question " + which, x, "9634");
    }

    /** No question leaves something behind that another one, or itself, answers by. */
    private static void questionsAskedTwice() {
        for (int which = 0; which < QUESTIONS; which++) {
            for (int other = 0; other < QUESTIONS; other++) {
                RopeRemembers x = made();
                String first = asked(x, which, 1, 2, 3) + " " + Check.rowOf(x);
                x = made();
                asked(x, other, 2, 1, 5);
                x.later(99);
                x.mean();
                asked(x, which, 1, 2, 3);
                String row = Check.rowOf(x);
                String second = asked(x, which, 1, 2, 3) + " " + Check.rowOf(x);
                if (!first.contains(" -2 ")) {
                    CHECK.same("question " + which + " behind " + other, second, first);
                    CHECK.same("row of " + which + " behind " + other, Check.rowOf(x), row);
                }
            }
        }
    }

    /** "THE TEXT, which a call that reads it empties": no other call does. */
    private static void textStays() {
        RopeRemembers x = made();
        Check.tell(x, "12345");
        for (int which = 0; which < QUESTIONS; which++) {
            asked(x, which, 1, 1, 1);
            asked(x, which, -1, -1, -1);
        }
        x.crossing(1);
        x.crossing(61);
        x.show(0);
        x.show(9);
        x.glance(0, 1);
        x.glance(0, 0);
        x.rope(0, 1);
        x.rope(9, 9);
        x.sow(0, 1);
        x.sow(0, 0);
        x.undo();
        x.sheet(2, 1, 1, 1);
        x.sheet(4, 1, 1, 1);
        x.dig(0, 0);
        x.dig(9, 0);
        x.forget();
        x.keep(1);
        x.again(1);
        x.again(5);
        x.end(6);
        x.end(-1);
        CHECK.due("the text stays", x.count(12), 5);
        CHECK.due("the text is read", x.field(), 5);
        CHECK.corn("the text is read", x, "12345");
        CHECK.due("the text is empty", x.count(12), 0);
        Check.tell(x, "b");
        CHECK.due("week() empties it", x.week() + x.count(12), -1);
        Check.tell(x, "b");
        CHECK.due("people() empties it", x.people() + x.count(12), -1);
        Check.tell(x, "+");
        CHECK.due("rule() empties it", x.rule() + x.count(12), -1);
        Check.tell(x, "+");
        CHECK.due("law() empties it", x.law() + x.count(12), -10000);
        Check.tell(x, "b");
        CHECK.due("field() empties it", x.field() + x.count(12), -1);
    }

    /** Terms 2: "ROW: numbers told last by a call that says so." */
    private static void rowIsToldOnlyByThoseThatSaySo() {
        RopeRemembers x = made();
        x.dues(13);
        String row = Check.rowOf(x);
        x.show(2);
        x.glance(0, 1);
        x.rope(0, 2);
        x.sow(1, 1);
        x.undo();
        x.dig(1, 1);
        x.forget();
        x.keep(1);
        x.again(0);
        x.sheet(1, 2, 3, 4);
        x.sign(5);
        x.end(0);
        x.field();
        x.people();
        x.rule();
        x.count(1);
        CHECK.same("the row is told last by dues()", Check.rowOf(x), row);
        CHECK.same("13 coins by 3, 4, 0", row, "6 7 0 ");
    }
}
