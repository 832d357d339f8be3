import java.util.NoSuchElementException;
import java.util.Random;

/**
 * All promises: runs of some 500 calls drawn by seeds, each call asked of the
 * program and of the model; their answers must be the same.
 */
public final class RandomRunsTest {
    private static final int RUNS = 400;
    /** A text's calls may go beyond it, but not beyond 512. */
    private static final int CALLS = 490;
    private static final long THROWN = Long.MIN_VALUE;
    private static final int[] EXTREMES = {Integer.MIN_VALUE, Integer.MAX_VALUE, -1, -2, 32, 64, 256, 1 << 16, 1 << 31};
    private static final String SIGNS = "0123456789abcdefghx;+-*/<>=()cgs z\u00e9";
    private static final String[] RULES = {"", "b", "a", "9-b", "b+1", "b-1", "a-g*3", "b-x", "(a+b)/2+(d<3)-g*4",
        "b+1-(b=e)*(e+1)", "e-(g+x>0)*9", "9-g*9-x*9", "b-(x*2>n)*2", "d", "b+n-x*3", "(b+a+1)/2-g*3", "9", "0",
        "b-(d=0)+(d=3)*2", "a*2-b", "-(-b)+-1+n", "b/(n-1)*2", "((((b+a))))/2", "b*99*99*99*99*9/7"};

    private final Random random;
    private final RopeRemembers x = new RopeRemembers();
    private final Model m = new Model();
    private final StringBuilder log = new StringBuilder();

    private RandomRunsTest(long seed) {
        random = new Random(seed);
    }

    public static void main(String[] args) {
        int runs = args.length > 0 ? Integer.parseInt(args[0]) : RUNS;
        for (int run = 0; run < runs; run++) {
            RandomRunsTest test = new RandomRunsTest(run);
            if (!test.run()) {
                System.out.println("run " + run + ":\n" + test.log);
                System.exit(1);
            }
        }
        System.out.println("RandomRunsTest: " + runs + " runs of some " + CALLS + " calls, all answers as the model's");
    }

    private boolean run() {
        int calls = 0;
        while (calls < CALLS) {
            int which = random.nextInt(60);
            if (which < 8 || calls == 0) {
                String text = text(which < 8 ? which : 0);
                for (int i = 0; i < text.length(); i += 4) {
                    int v = 0;
                    for (int j = 0; j < 4; j++) {
                        v = v << 8 | (i + j < text.length() ? text.charAt(i + j) & 255 : random.nextInt(256));
                    }
                    calls++;
                    if (!same("sign(" + v + ")", x.sign(v), m.sign(v))) {
                        return false;
                    }
                }
                calls++;
                if (!same("end", x.end(text.length()) ? 1 : 0, m.end(text.length()))) {
                    return false;
                }
                calls++;
                // Now and then a text is left standing, to be gone on with by the next one.
                if (random.nextInt(12) > 0 && !reads(which < 8 ? which : 0)) {
                    return false;
                }
            } else {
                calls++;
                if (!call(which)) {
                    return false;
                }
            }
        }
        return true;
    }

    private boolean same(String call, long got, long want) {
        log.append(call).append(" -> ").append(got).append('\n');
        if (got != want) {
            log.append("the model answers ").append(want).append('\n');
        }
        return got == want;
    }

    private String text(int kind) {
        StringBuilder t = new StringBuilder();
        switch (kind) {
            case 0:
                for (int i = random.nextInt(9) == 0 ? random.nextInt(19) : 1 + random.nextInt(16); i > 0; i--) {
                    t.append(random.nextInt(10));
                }
                break;
            case 1:
            case 2:
                lines(t);
                break;
            case 3:
            case 4:
                t.append(random.nextInt(3) > 0 ? RULES[random.nextInt(RULES.length)] : expression(4));
                break;
            case 5:
            case 6:
                for (int i = random.nextInt(9) == 0 ? 40 : random.nextInt(9); i > 0; i--) {
                    t.append(act());
                }
                break;
            default:
                t.append(random.nextInt(3) > 0 ? RULES[random.nextInt(RULES.length)] : expression(4));
        }
        while (random.nextInt(3) == 0 && t.length() > 0) {
            char c = SIGNS.charAt(random.nextInt(SIGNS.length()));
            int at = random.nextInt(t.length() + 1);
            if (at < t.length() && random.nextBoolean()) {
                t.setCharAt(at, c);
            } else {
                t.insert(at, c);
            }
        }
        return t.length() > 80 ? t.substring(0, 80) : t.toString();
    }

    private void lines(StringBuilder t) {
        int already = (int) m.count(3);
        int room = 8 - already;
        int many = random.nextInt(6) == 0 ? random.nextInt(10) : 1 + random.nextInt(Math.max(1, room));
        int often = 1 + random.nextInt(8);
        for (int i = 0; i < many; i++) {
            t.append(i > 0 ? ";" : "").append(random.nextInt(10)).append(random.nextInt(10));
            for (int j = 0; j < 8; j++) {
                if (j != already + i && random.nextInt(8) < often) {
                    t.append((char) ('a' + j));
                }
            }
        }
    }

    private String expression(int depth) {
        switch (random.nextInt(depth > 0 ? 7 : 2)) {
            case 0:
                return String.valueOf(random.nextInt(random.nextInt(4) == 0 ? 1000 : 10));
            case 1:
            case 2:
                return String.valueOf("banxgde".charAt(random.nextInt(7)));
            case 3:
                return "-" + expression(depth - 1);
            case 4:
                return "(" + expression(depth - 1) + ")";
            default:
                return expression(depth - 1) + "+-*/+-*/<>=".charAt(random.nextInt(11)) + expression(depth - 1);
        }
    }

    private String act() {
        char one = (char) ('a' + random.nextInt(random.nextInt(6) == 0 ? 8 : (int) Math.max(1, m.count(3))));
        char other = (char) ('a' + random.nextInt(8));
        switch (random.nextInt(6)) {
            case 0:
            case 1:
                return "c" + random.nextInt(random.nextBoolean() ? 3 : 10);
            case 2:
                return "s" + one;
            case 3:
                return "g" + one + other;
            case 4:
                return "+";
            default:
                return "-";
        }
    }

    private boolean reads(int kind) {
        switch (kind) {
            case 0:
                return same("field", x.field(), m.field());
            case 1:
            case 2:
                return same("people", x.people(), m.people());
            case 3:
            case 4:
                return same("rule", x.rule(), m.rule());
            case 5:
            case 6:
                return same("week", x.week(), m.week());
            default:
                return same("law", x.law(), m.law());
        }
    }

    /** A number that mostly fits, but is now and then just outside or far away. */
    private int number(int from, int to) {
        int kind = random.nextInt(40);
        if (kind == 0) {
            return EXTREMES[random.nextInt(EXTREMES.length)];
        }
        if (kind == 1) {
            return random.nextBoolean() ? from - 1 : to + 1;
        }
        if (kind == 2) {
            return random.nextBoolean() ? from : to;
        }
        return from + random.nextInt(Math.max(1, to - from + 1));
    }

    private int anyPerson() {
        return number(0, (int) m.count(3) - 1);
    }

    private int anyFurrow() {
        return number(0, (int) m.count(0) - 1);
    }

    private int anySet() {
        return number(0, (1 << (int) m.count(3)) - 1);
    }

    private boolean call(int which) {
        int a = anyPerson();
        int b = anyPerson();
        int f = anyFurrow();
        int n = number(0, 60);
        int k = number(1, 20);
        switch (which) {
            case 8:
                return same("furrow " + f, furrowOf(true, f, k % 2), furrowOf(false, f, k % 2));
            case 9:
                int of = number(0, 5);
                return same("person " + a + " " + of, personOf(true, a, of), personOf(false, a, of));
            case 10:
                return sheet();
            case 11:
            case 12:
                int few = random.nextInt(3) > 0 ? random.nextInt(4) : n;
                return same("crossing " + few, x.crossing(few), m.crossing(few));
            case 13:
            case 14:
                return same("show " + a, x.show(a), m.acted('s', a, 0));
            case 15:
            case 16:
                return same("glance " + a + " " + b, x.glance(a, b), m.acted('g', a, b));
            case 17:
                int g = anyFurrow();
                return same("rope " + f + " " + g, x.rope(f, g), m.acted('r', f, g));
            case 18:
                int corn = number(1, 9);
                return same("sow " + f + " " + corn, x.sow(f, corn), m.acted('+', f, corn));
            case 19:
                return same("undo", x.undo(), m.undo());
            case 20:
                int late = number(0, 99);
                return same("later " + late, x.later(late), m.later(late));
            case 21:
                return same("settles", x.settles(), m.settles());
            case 22:
                return same("leaves " + a, x.leaves(a), m.leaves(a));
            case 23:
                int those = anySet();
                return same("signs " + those + " " + k, x.signs(those, k), m.signs(those, k, false));
            case 24:
                return same("empties " + k, x.empties(k), m.signs(0, k, true));
            case 25:
                return same("weakest " + k, x.weakest(k), m.weakest(k));
            case 26:
                return same("mean", x.mean(), m.mean());
            case 27:
                return same("depends " + a, x.depends(a), m.depends(a));
            case 28:
                return same("cut " + a + " " + b, x.cut(a, b), m.cut(a, b));
            case 29:
                return same("faces", x.faces(), m.faces());
            case 30:
                int deep = number(0, 9);
                return same("knows " + deep, x.knows(deep), m.knows(deep));
            case 31:
                return same("circle", x.circle(), m.circle());
            case 32:
                int some = anySet();
                return same("spreads " + some, x.spreads(some), m.spreads(some));
            case 33:
                return same("unlike", x.unlike(), m.unlike());
            case 34:
            case 35:
                int is = number(0, 1);
                return same("dig " + f + " " + is, x.dig(f, is), m.dig(f, is));
            default:
                return callMore(which, f, n);
        }
    }

    private boolean callMore(int which, int f, int n) {
        int days = number(1, 12);
        int tenths = number(0, 10);
        switch (which) {
            case 36:
                boolean now = random.nextInt(3) == 0;
                return !now || same("forget", x.forget(), m.forget());
            case 37:
                return same("courses", x.courses(), m.courses());
            case 38:
                return same("sure", x.sure(), m.sure());
            case 39:
                return same("next", x.next(), m.next());
            case 40:
                int coins = number(0, 999);
                return same("dues " + coins, x.dues(coins), m.dues(coins));
            case 41:
                int wide = number(1, (int) m.count(0));
                return same("cheapest " + wide, x.cheapest(wide), m.cheapest(wide));
            case 42:
                return same("yard " + n, x.yard(n), m.yard(n));
            case 43:
                return same("harvest " + n, x.harvest(n), m.harvest(n));
            case 44:
                return same("owed " + f + " " + n, x.owed(f, n), m.owed(f, n));
            case 45:
                int many = number(0, 12);
                return same("floods " + days + " " + many + " " + tenths, x.floods(days, many, tenths),
                    m.floods(days, many, tenths));
            case 46:
                return same("twice " + days + " " + tenths, x.twice(days, tenths), m.twice(days, tenths));
            case 47:
                int v = number(0, 20);
                int other = number(0, 9);
                return same("rests " + v + " " + other, x.rests(v, other), m.rests(v, other));
            case 48:
                int seed = random.nextInt();
                return same("years " + seed + " " + n, x.years(seed, n), m.years(seed, n));
            case 49:
                int kept = number(0, 1);
                return same("keep " + kept, x.keep(kept) ? 1 : 0, m.keep(kept));
            case 50:
                int back = number(0, 1);
                return same("again " + back, x.again(back) ? 1 : 0, m.again(back));
            case 51:
            case 52:
            case 53:
            case 54:
                int what = number(0, 14);
                return same("count " + what, x.count(what), m.count(what));
            default:
                int i = number(0, (int) Math.max(0, m.count(11) - 1));
                return same("row " + i, rowOf(true, i), rowOf(false, i));
        }
    }

    private boolean sheet() {
        int kind = number(0, 3);
        int n = number(0, 8);
        int f = random.nextBoolean() ? random.nextInt(10) : random.nextInt();
        int step = random.nextBoolean() ? random.nextInt(7) - 3 : random.nextInt();
        return same("sheet " + kind + " " + n + " " + f + " " + step, x.sheet(kind, n, f, step),
            m.sheet(kind, n, f, step));
    }

    private long furrowOf(boolean ofProgram, int f, int what) {
        try {
            return ofProgram ? x.furrow(f, what) : m.furrow(f, what);
        } catch (NoSuchElementException e) {
            return THROWN;
        }
    }

    private long personOf(boolean ofProgram, int p, int what) {
        try {
            return ofProgram ? x.person(p, what) : m.person(p, what);
        } catch (NoSuchElementException e) {
            return THROWN;
        }
    }

    private long rowOf(boolean ofProgram, int i) {
        try {
            return ofProgram ? x.row(i) : m.row(i);
        } catch (NoSuchElementException e) {
            return THROWN;
        }
    }
}
