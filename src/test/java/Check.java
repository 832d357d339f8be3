import java.util.NoSuchElementException;

/** Counts what is not as due, and tells texts to an object. */
final class Check {
    private final String name;
    private int asked;
    private int wrong;

    Check(String name) {
        this.name = name;
    }

    /** THE TEXT becomes a text (of at most 80 signs), by sign() and end(). */
    static void tell(RopeRemembers x, String text) {
        x.end(0);
        for (int i = 0; i < text.length(); i += 4) {
            int v = 0;
            for (int j = i; j < i + 4; j++) {
                v = v << 8 | (j < text.length() ? text.charAt(j) & 255 : 0);
            }
            x.sign(v);
        }
        x.end(text.length());
    }

    static int field(RopeRemembers x, String text) {
        tell(x, text);
        return x.field();
    }

    static int people(RopeRemembers x, String text) {
        tell(x, text);
        return x.people();
    }

    static int rule(RopeRemembers x, String text) {
        tell(x, text);
        return x.rule();
    }

    static int week(RopeRemembers x, String text) {
        tell(x, text);
        return x.week();
    }

    static int law(RopeRemembers x, String text) {
        tell(x, text);
        return x.law();
    }

    static RopeRemembers made(String field, String people) {
        RopeRemembers x = new RopeRemembers();
        field(x, field);
        people(x, people);
        return x;
    }

    /** All that can be seen of an object but for the ROW and THE TEXT. */
    static String state(RopeRemembers x) {
        StringBuilder all = new StringBuilder();
        for (int what = 0; what <= 14; what++) {
            all.append(what == 11 || what == 12 ? "" : x.count(what) + " ");
        }
        for (int i = 0; i < x.count(0); i++) {
            all.append("| ").append(x.furrow(i, 0)).append(x.furrow(i, 1));
        }
        for (int i = 0; i < x.count(3); i++) {
            for (int what = 0; what <= 5; what++) {
                all.append(what == 0 ? "; " : " ").append(x.person(i, what));
            }
        }
        return all.toString();
    }

    static String rowOf(RopeRemembers x) {
        StringBuilder all = new StringBuilder();
        for (int i = 0; i < x.count(11); i++) {
            all.append(x.row(i)).append(' ');
        }
        return all.toString();
    }

    static String many(String part, int times) {
        return part.repeat(times);
    }

    void due(String what, long got, long want) {
        asked++;
        if (got != want) {
            wrong++;
            System.out.println(name + ": " + what + " answered " + got + ", due is " + want);
        }
    }

    void due(String what, boolean got, boolean want) {
        due(what, got ? 1 : 0, want ? 1 : 0);
    }

    /** The ROW is just these numbers. */
    void row(String what, RopeRemembers x, long... want) {
        due(what + ": numbers of the row", x.count(11), want.length);
        for (int i = 0; i < want.length && i < x.count(11); i++) {
            due(what + ": row(" + i + ")", x.row(i), want[i]);
        }
        noRow(what, x, want.length);
        noRow(what, x, -1);
    }

    void noRow(String what, RopeRemembers x, int i) {
        boolean thrown = false;
        try {
            x.row(i);
        } catch (NoSuchElementException e) {
            thrown = true;
        }
        due(what + ": row(" + i + ") throws", thrown, true);
    }

    void noFurrow(String what, RopeRemembers x, int furrow, int of) {
        boolean thrown = false;
        try {
            x.furrow(furrow, of);
        } catch (NoSuchElementException e) {
            thrown = true;
        }
        due(what + ": furrow(" + furrow + ", " + of + ") throws", thrown, true);
    }

    void noPerson(String what, RopeRemembers x, int person, int of) {
        boolean thrown = false;
        try {
            x.person(person, of);
        } catch (NoSuchElementException e) {
            thrown = true;
        }
        due(what + ": person(" + person + ", " + of + ") throws", thrown, true);
    }

    void corn(String what, RopeRemembers x, String want) {
        StringBuilder got = new StringBuilder();
        for (int i = 0; i < x.count(0); i++) {
            got.append(x.furrow(i, 0));
        }
        same(what + ": corn", got.toString(), want);
    }

    void belief(String what, RopeRemembers x, String want) {
        StringBuilder got = new StringBuilder();
        for (int i = 0; i < x.count(3); i++) {
            got.append(x.person(i, 0));
        }
        same(what + ": belief", got.toString(), want);
    }

    void same(String what, String got, String want) {
        asked++;
        if (!got.equals(want)) {
            wrong++;
            System.out.println(name + ": " + what + " is " + got + ", due is " + want);
        }
    }

    void finish() {
        System.out.println(name + ": " + asked + " answers, " + wrong + " not as due");
        if (wrong != 0) {
            System.exit(1);
        }
    }
}
