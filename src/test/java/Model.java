import java.math.BigInteger;
import java.util.ArrayDeque;
import java.util.ArrayList;
import java.util.Arrays;
import java.util.HashMap;
import java.util.List;
import java.util.Map;
import java.util.NoSuchElementException;

/**
 * The document once more, written apart from the program and by other means
 * (lists, regular expressions, recursion, every case counted), to be asked the
 * same calls: slow and plain.
 */
final class Model {
    static final long NONE = -1;

    /** All that undo() brings back. */
    static final class Shot {
        int[] corn = {0};
        int left;
        int right;
        int[] belief = {};
        int[] edge = {};
        int[] sees = {};
        int signs;
        int day;
        int paid;

        Shot copy() {
            Shot s = new Shot();
            s.corn = corn.clone();
            s.left = left;
            s.right = right;
            s.belief = belief.clone();
            s.edge = edge.clone();
            s.sees = sees.clone();
            s.signs = signs;
            s.day = day;
            s.paid = paid;
            return s;
        }

        int people() {
            return belief.length;
        }

        List<Integer> seen(int p) {
            List<Integer> l = new ArrayList<>();
            for (int q = 0; q < people(); q++) {
                if ((sees[p] & 1 << q) != 0) {
                    l.add(q);
                }
            }
            return l;
        }

        boolean in(int p) {
            return belief[p] >= edge[p];
        }

        int inBits() {
            int bits = 0;
            for (int p = people() - 1; p >= 0; p--) {
                bits = bits * 2 + (in(p) ? 1 : 0);
            }
            return bits;
        }

        int inMany() {
            return Integer.bitCount(inBits());
        }

        int sumBelief() {
            return Arrays.stream(belief).sum();
        }

        int ropeCorn() {
            return Arrays.stream(corn, left, right + 1).sum();
        }

        void cross(String rule) {
            boolean some = inBits() > 0;
            if (some) {
                paid += ropeCorn();
            }
            for (int f = 0; f < corn.length; f++) {
                boolean of = left <= f && f <= right;
                if (of && some && corn[f] > 0) {
                    corn[f]--;
                }
                if (!of && corn[f] < 9) {
                    corn[f]++;
                }
            }
            int[] b = new int[people()];
            for (int p = 0; p < b.length; p++) {
                b[p] = Tree.belief(rule, this, p);
            }
            belief = b;
            signs = 0;
            day++;
        }

        Shot after(int n, String rule) {
            Shot s = copy();
            for (int i = 0; i < n; i++) {
                s.cross(rule);
            }
            return s;
        }
    }

    /** THE RULE by recursive descent; what can't stand is told by the place in an exception. */
    static final class Tree {
        static final class Wrong extends RuntimeException {
            final int at;

            Wrong(int at) {
                this.at = at;
            }
        }

        private final String t;
        private final Shot s;
        private final int person;
        private int p;

        Tree(String t, Shot s, int person) {
            this.t = t;
            this.s = s;
            this.person = person;
        }

        static int belief(String rule, Shot s, int person) {
            String t = rule.isEmpty() ? "(b+a+1)/2-g*3" : rule;
            return Math.max(0, Math.min(9, new Tree(t, s, person).all()));
        }

        /** Where a text is wrong first, or -1. */
        static int wrong(String t) {
            Shot s = new Shot();
            s.belief = new int[] {0};
            s.edge = new int[] {0};
            s.sees = new int[] {0};
            String first = t.length() > 40 ? t.substring(0, 40) : t;
            try {
                new Tree(first, s, 0).all();
            } catch (Wrong w) {
                return w.at;
            }
            return t.length() > 40 ? 40 : -1;
        }

        private char here() {
            return p < t.length() ? t.charAt(p) : 0xFFFF;
        }

        private int all() {
            int v = comparison(0);
            if (p < t.length()) {
                throw new Wrong(p);
            }
            return v;
        }

        private int comparison(int depth) {
            int v = sum(depth);
            char c = here();
            if (c == '<' || c == '>' || c == '=') {
                p++;
                int w = sum(depth);
                boolean is = c == '<' ? v < w : c == '>' ? v > w : v == w;
                return is ? 1 : 0;
            }
            return v;
        }

        private int sum(int depth) {
            int v = product(depth);
            while (here() == '+' || here() == '-') {
                char c = here();
                p++;
                int w = product(depth);
                v = c == '+' ? v + w : v - w;
            }
            return v;
        }

        private int product(int depth) {
            int v = thing(depth);
            while (here() == '*' || here() == '/') {
                char c = here();
                p++;
                int w = thing(depth);
                v = c == '*' ? v * w : w == 0 ? 0 : v / w;
            }
            return v;
        }

        private int thing(int depth) {
            char c = here();
            if (c == '-') {
                p++;
                return -thing(depth);
            }
            if (c == '(') {
                if (depth == 4) {
                    throw new Wrong(p);
                }
                p++;
                int v = comparison(depth + 1);
                if (here() != ')') {
                    throw new Wrong(p);
                }
                p++;
                return v;
            }
            if (c >= '0' && c <= '9') {
                int from = p;
                while (p < from + 3 && here() >= '0' && here() <= '9') {
                    p++;
                }
                return Integer.parseInt(t.substring(from, p));
            }
            int v = letter(c);
            p++;
            return v;
        }

        private int letter(char c) {
            List<Integer> seen = s.seen(person);
            switch (c) {
                case 'b':
                    return s.belief[person];
                case 'a':
                    return (int) seen.stream().mapToInt(q -> s.belief[q]).average().orElse(s.belief[person]);
                case 'n':
                    return seen.size();
                case 'x':
                    return (int) seen.stream().filter(q -> !s.in(q)).count();
                case 'g':
                    return (s.signs & 1 << person) != 0 ? 1 : 0;
                case 'd':
                    return s.day % 7;
                case 'e':
                    return s.edge[person];
                default:
                    throw new Wrong(p);
            }
        }
    }

    String text = "";
    String rule = "";
    Shot now = new Shot();
    ArrayDeque<Shot> past = new ArrayDeque<>();
    Shot[] kept = new Shot[2];
    List<int[]> digs = new ArrayList<>();
    List<Long> row = new ArrayList<>();

    private void tell(long... numbers) {
        row.clear();
        for (long n : numbers) {
            row.add(n);
        }
    }

    private boolean isPerson(int p) {
        return 0 <= p && p < now.people();
    }

    private boolean isFurrow(int f) {
        return 0 <= f && f < now.corn.length;
    }

    private String read() {
        String t = text;
        text = "";
        return t;
    }

    private void done(Shot ahead) {
        past.addLast(ahead);
        if (past.size() > 12) {
            past.removeFirst();
        }
    }

    // ---- the field, people

    long sign(int v) {
        if (text.length() + 4 > 80) {
            return NONE;
        }
        text += "" + (char) (v >>> 24) + (char) (v >>> 16 & 255) + (char) (v >>> 8 & 255) + (char) (v & 255);
        return text.length();
    }

    long end(int n) {
        if (n < 0 || n > text.length()) {
            return 0;
        }
        text = text.substring(0, n);
        return 1;
    }

    long field() {
        String t = read();
        for (int p = 0; p < t.length(); p++) {
            if (p == 16 || !t.substring(p, p + 1).matches("[0-9]")) {
                return -1 - p;
            }
        }
        if (t.isEmpty()) {
            return -1;
        }
        now.corn = t.chars().map(c -> c - '0').toArray();
        now.left = 0;
        now.right = t.length() - 1;
        digs.clear();
        past.clear();
        kept = new Shot[2];
        return t.length();
    }

    /** Whether LINES could go on or end behind a text; or, if whole, end. */
    private boolean lines(String t, boolean whole) {
        String[] lines = t.split(";", -1);
        if (t.length() > 76) {
            return false;
        }
        for (int i = 0; i < lines.length; i++) {
            boolean part = i == lines.length - 1 && !whole;
            String line = lines[i];
            int own = now.people() + i;
            if (own > 7 && !(part && line.isEmpty())) {
                return false;
            }
            boolean fits = line.matches("[0-9][0-9]a?b?c?d?e?f?g?h?") || part && line.matches("[0-9]?");
            if (!fits || line.indexOf('a' + own) >= 0) {
                return false;
            }
        }
        return true;
    }

    long people() {
        String t = read();
        if (t.isEmpty()) {
            return 0;
        }
        for (int p = 0; p < t.length(); p++) {
            if (!lines(t.substring(0, p + 1), false)) {
                return -1 - p;
            }
        }
        if (!lines(t, true)) {
            return -1 - t.length();
        }
        String[] lines = t.split(";");
        for (String line : lines) {
            int at = now.people();
            now.belief = Arrays.copyOf(now.belief, at + 1);
            now.edge = Arrays.copyOf(now.edge, at + 1);
            now.sees = Arrays.copyOf(now.sees, at + 1);
            now.belief[at] = line.charAt(0) - '0';
            now.edge[at] = line.charAt(1) - '0';
            now.sees[at] = line.substring(2).chars().map(c -> 1 << c - 'a').sum();
        }
        past.clear();
        kept = new Shot[2];
        return lines.length;
    }

    long rule() {
        String t = read();
        int wrong = t.isEmpty() ? -1 : Tree.wrong(t);
        if (wrong >= 0) {
            return -1 - wrong;
        }
        rule = t;
        return 0;
    }

    long furrow(int f, int what) {
        if (!isFurrow(f) || what != 0 && what != 1) {
            throw new NoSuchElementException();
        }
        return what == 0 ? now.corn[f] : now.left <= f && f <= now.right ? 1 : 0;
    }

    long person(int p, int what) {
        if (!isPerson(p) || what < 0 || what > 5) {
            throw new NoSuchElementException();
        }
        long seers = 0;
        for (int q = 0; q < now.people(); q++) {
            seers += now.seen(q).contains(p) ? 1 : 0;
        }
        long[] all = {now.belief[p], now.edge[p], now.seen(p).stream().mapToInt(q -> 1 << q).sum(), now.in(p) ? 1 : 0,
            Tree.belief(rule, now, p), seers};
        return all[what];
    }

    long sheet(int kind, int n, int f, int step) {
        if (kind < 0 || kind > 3 || n > 8) {
            return NONE;
        }
        if (kind < 3 && n < 0) {
            return -2;
        }
        int[] entries = new int[8];
        for (int i = 0; kind < 3 && i < n; i++) {
            int v = f + step * i;
            v = kind == 0 ? (byte) v : kind == 1 ? (short) v : v;
            entries[i] = Math.min(9, Math.max(0, v));
        }
        now.belief = Arrays.copyOf(entries, now.people());
        return kind == 3 ? -3 : now.sumBelief();
    }

    // ---- weeks

    long crossing(int n) {
        if (n < 0 || n > 60) {
            return NONE;
        }
        Shot ahead = now.copy();
        long changed = cross(n);
        if (n > 0) {
            done(ahead);
        }
        tell(now.paid - ahead.paid, changed);
        return now.inMany();
    }

    private long cross(int n) {
        long changed = 0;
        for (int i = 0; i < n; i++) {
            Shot before = now.copy();
            now.cross(rule);
            for (int p = 0; p < now.people(); p++) {
                changed += before.in(p) != now.in(p) ? 1 : 0;
            }
        }
        return changed;
    }

    long act(char kind, int a, int b) {
        switch (kind) {
            case 'c':
                return cross(a);
            case 's':
                if (!isPerson(a)) {
                    return NONE;
                }
                if ((now.signs & 1 << a) != 0) {
                    return -2;
                }
                now.signs += 1 << a;
                return now.signs;
            case 'g':
                if (!isPerson(a) || !isPerson(b) || a == b) {
                    return NONE;
                }
                now.sees[a] ^= 1 << b;
                return now.seen(a).size();
            case 'r':
                if (!isFurrow(a) || !isFurrow(b)) {
                    return NONE;
                }
                if (a > b) {
                    return -2;
                }
                now.left = a;
                now.right = b;
                return b - a + 1;
            default:
                if (!isFurrow(a) || b < 1 || b > 9) {
                    return NONE;
                }
                now.corn[a] = Math.min(9, now.corn[a] + b);
                return now.corn[a];
        }
    }

    long acted(char kind, int a, int b) {
        Shot ahead = now.copy();
        long answer = act(kind, a, b);
        if (answer >= 0) {
            done(ahead);
        }
        return answer;
    }

    long week() {
        String t = read();
        String act = "(c[0-9]|s[a-h]|g[a-h][a-h]|\\+|-)";
        for (int p = 0; p < t.length(); p++) {
            if (p == 60 || !t.substring(0, p + 1).matches(act + "*(c|s|g[a-h]?)?")) {
                return -1 - p;
            }
        }
        if (!t.matches(act + "*")) {
            return -1 - t.length();
        }
        Shot ahead = now.copy();
        int acts = 0;
        boolean stopped = false;
        for (int p = 0; p < t.length() && !stopped;) {
            char kind = t.charAt(p);
            int length = kind == 'g' ? 3 : kind == 'c' || kind == 's' ? 2 : 1;
            int a = length > 1 ? t.charAt(p + 1) - (kind == 'c' ? '0' : 'a') : 0;
            int b = length > 2 ? t.charAt(p + 2) - 'a' : 0;
            long answer = length > 1 ? act(kind, a, b) : act('r', now.left, now.right + (kind == '+' ? 1 : -1));
            stopped = answer < 0;
            acts += stopped ? 0 : 1;
            p += length;
        }
        if (acts > 0) {
            done(ahead);
        }
        tell(stopped ? 1 : 0, now.inMany());
        return acts;
    }

    long undo() {
        if (past.isEmpty()) {
            return NONE;
        }
        now = past.removeLast();
        return past.size();
    }

    // ---- belief

    long later(int n) {
        if (n < 0 || n > 99) {
            return NONE;
        }
        Shot s = now.after(n, rule);
        tell(s.sumBelief(), s.paid - now.paid);
        return s.inBits();
    }

    long settles() {
        Shot s = now.copy();
        s.signs = 0;
        Map<String, Integer> been = new HashMap<>();
        for (int i = 0; i <= 200; i++) {
            Integer first = been.putIfAbsent(Arrays.toString(s.belief) + s.day % 7, i);
            if (first != null) {
                tell(i - first);
                return first;
            }
            s.cross(rule);
        }
        return -2;
    }

    long leaves(int p) {
        if (!isPerson(p)) {
            return NONE;
        }
        for (int i = 1; i <= 60; i++) {
            Shot s = now.after(i, rule);
            if (s.in(p) != now.in(p)) {
                tell(s.belief[p]);
                return i;
            }
        }
        return -2;
    }

    long signs(int those, int n, boolean empties) {
        if (n < 1 || n > 20 || those < 0 || those >= 1 << now.people()) {
            return NONE;
        }
        for (int many = 0; many <= now.people(); many++) {
            for (int set = 0; set < 1 << now.people(); set++) {
                if (Integer.bitCount(set) == many && (set & now.signs) == 0 && works(set, those, n, empties)) {
                    tell(set);
                    return many;
                }
            }
        }
        return -2;
    }

    private boolean works(int set, int those, int n, boolean empties) {
        Shot s = now.copy();
        s.signs |= set;
        for (int i = 1; i <= n; i++) {
            s.cross(rule);
            if (empties && s.inMany() == 0) {
                return true;
            }
        }
        return !empties && (s.inBits() & those) == 0;
    }

    long weakest(int n) {
        if (n < 1 || n > 20) {
            return NONE;
        }
        int best = -2;
        int left = 99;
        for (int p = now.people() - 1; p >= 0; p--) {
            Shot s = now.copy();
            s.signs |= 1 << p;
            int in = s.after(n, rule).inMany();
            if ((now.signs & 1 << p) == 0 && in <= left) {
                best = p;
                left = in;
            }
        }
        if (best >= 0) {
            tell(left, now.after(n, rule).inMany());
        }
        return best;
    }

    private void fraction(BigInteger up, BigInteger low) {
        BigInteger g = up.gcd(low);
        tell(up.divide(g).longValueExact(), low.divide(g).longValueExact());
    }

    long mean() {
        int sum = 0;
        for (int p = 0; p < now.people(); p++) {
            sum += now.in(p) ? now.belief[p] : 0;
        }
        fraction(BigInteger.valueOf(sum), BigInteger.valueOf(Math.max(1, now.inMany())));
        return now.inMany();
    }

    // ---- glances

    private void walk(int p, boolean[] been) {
        for (int q : now.seen(p)) {
            if (!been[q]) {
                been[q] = true;
                walk(q, been);
            }
        }
    }

    private int on(int p) {
        boolean[] been = new boolean[8];
        walk(p, been);
        int bits = 0;
        for (int q = 0; q < 8; q++) {
            bits += been[q] ? 1 << q : 0;
        }
        return bits;
    }

    long depends(int p) {
        if (!isPerson(p)) {
            return NONE;
        }
        int many = 0;
        for (int q = 0; q < now.people(); q++) {
            many += (on(q) & 1 << p) != 0 ? 1 : 0;
        }
        tell(Integer.bitCount(on(p)), many);
        return on(p);
    }

    /** Sends one more along glances that are free, taking back those that were used. */
    private boolean flow(int[][] free, int p, int to, boolean[] been) {
        if (p == to) {
            return true;
        }
        been[p] = true;
        for (int q = 0; q < free.length; q++) {
            if (!been[q] && free[p][q] > 0 && flow(free, q, to, been)) {
                free[p][q]--;
                free[q][p]++;
                return true;
            }
        }
        return false;
    }

    long cut(int p, int other) {
        if (!isPerson(p) || !isPerson(other) || p == other) {
            return NONE;
        }
        int many = now.people();
        int[][] free = new int[many][many];
        for (int q = 0; q < many; q++) {
            for (int r : now.seen(q)) {
                free[q][r] = 1;
            }
        }
        int flow = 0;
        while (flow(free, p, other, new boolean[many])) {
            flow++;
        }
        for (int set = 0; set < 1 << many; set++) {
            int out = 0;
            for (int q = 0; q < many; q++) {
                for (int r : now.seen(q)) {
                    out += (set & 1 << q) != 0 && (set & 1 << r) == 0 ? 1 : 0;
                }
            }
            if ((set & 1 << p) != 0 && (set & 1 << other) == 0 && out == flow) {
                tell(set);
                return flow;
            }
        }
        throw new IllegalStateException("a flow without a cut");
    }

    long faces() {
        long best = -2;
        long[] two = {};
        for (int p = 0; p < now.people(); p++) {
            for (int q = p + 1; q < now.people(); q++) {
                Shot s = now.copy();
                s.sees[p] |= 1 << q;
                s.sees[q] |= 1 << p;
                boolean already = s.sees[p] == now.sees[p] && s.sees[q] == now.sees[q];
                int in = s.after(2, rule).inMany();
                if (!already && in > best) {
                    best = in;
                    two = new long[] {p, q};
                }
            }
        }
        if (best >= 0) {
            tell(two);
        }
        return best;
    }

    private boolean knows(int p, int k) {
        return !now.in(p) && (k == 0 || now.seen(p).stream().allMatch(q -> knows(q, k - 1)));
    }

    private int knowing(int k) {
        int bits = 0;
        for (int p = 0; p < now.people(); p++) {
            bits += knows(p, k) ? 1 << p : 0;
        }
        return bits;
    }

    /** To a small depth only: the recursion goes down every glance. */
    long knows(int k) {
        if (k < 0 || k > 9) {
            return NONE;
        }
        int[] known = new int[12];
        known[0] = knowing(0);
        for (int d = 1; d < known.length; d++) {
            for (int p = 0; p < now.people(); p++) {
                boolean all = !now.in(p);
                for (int q : now.seen(p)) {
                    all &= (known[d - 1] & 1 << q) != 0;
                }
                known[d] += all ? 1 << p : 0;
            }
        }
        if (k < 4 && known[k] != knowing(k)) {
            throw new IllegalStateException("two ways of knowing");
        }
        int from = known.length - 1;
        while (from > 0 && known[from - 1] == known[known.length - 1]) {
            from--;
        }
        tell(Integer.bitCount(known[k]), from);
        return known[k];
    }

    long circle() {
        int best = 0;
        for (int set = (1 << now.people()) - 1; set > 0; set--) {
            boolean all = true;
            for (int p = 0; p < now.people(); p++) {
                for (int q = 0; q < now.people(); q++) {
                    boolean both = p != q && (set & 1 << p) != 0 && (set & 1 << q) != 0;
                    all &= !both || now.seen(p).contains(q);
                }
            }
            if (all && Integer.bitCount(set) >= Integer.bitCount(best)) {
                best = set;
            }
        }
        tell(best);
        return Integer.bitCount(best);
    }

    long spreads(int some) {
        if (some < 0 || some >= 1 << now.people()) {
            return NONE;
        }
        List<Integer> steps = new ArrayList<>();
        int have = some;
        while (steps.isEmpty() || steps.get(steps.size() - 1) != have) {
            steps.add(have);
            int next = have;
            for (int p = 0; p < now.people(); p++) {
                for (int q : now.seen(p)) {
                    next |= (have & 1 << q) != 0 ? 1 << p : 0;
                }
            }
            have = next;
        }
        int last = steps.size() - 1;
        tell(steps.get(last), steps.get(Math.max(0, last - 1)));
        return last;
    }

    long unlike() {
        List<long[]> pairs = new ArrayList<>();
        for (int p = 0; p < now.people(); p++) {
            for (int q = p + 1; q < now.people(); q++) {
                if (now.in(p) != now.in(q) && (now.seen(p).contains(q) || now.seen(q).contains(p))) {
                    pairs.add(new long[] {p, q});
                }
            }
        }
        tell(pairs.isEmpty() ? new long[] {} : pairs.get(0));
        return pairs.size();
    }

    // ---- where the water was

    private List<int[]> fitting(int furrow, int is) {
        List<int[]> all = new ArrayList<>();
        for (int l = 0; l < now.corn.length; l++) {
            for (int r = l; r < now.corn.length; r++) {
                boolean fits = true;
                for (int[] d : digs) {
                    fits &= (l <= d[0] && d[0] <= r) == (d[1] == 1);
                }
                if (furrow >= 0) {
                    fits &= (l <= furrow && furrow <= r) == (is == 1);
                }
                if (fits) {
                    all.add(new int[] {l, r});
                }
            }
        }
        return all;
    }

    long dig(int f, int is) {
        if (!isFurrow(f) || is != 0 && is != 1 || digs.size() == 12) {
            return NONE;
        }
        digs.add(new int[] {f, is});
        return digs.size();
    }

    long forget() {
        int many = digs.size();
        digs.clear();
        return many;
    }

    long courses() {
        List<int[]> all = fitting(-1, 0);
        int[] best = null;
        for (int[] c : all) {
            best = best == null || c[1] - c[0] < best[1] - best[0] ? c : best;
        }
        tell(best == null ? new long[] {} : new long[] {best[0], best[1]});
        return all.size();
    }

    long sure() {
        int in = 0;
        int out = 0;
        int any = fitting(-1, 0).size();
        for (int f = 0; f < now.corn.length && any > 0; f++) {
            in += fitting(f, 0).isEmpty() ? 1 << f : 0;
            out += fitting(f, 1).isEmpty() ? 1 << f : 0;
        }
        tell(out);
        return in;
    }

    long next() {
        if (fitting(-1, 0).isEmpty()) {
            return -2;
        }
        int best = -1;
        int least = 999;
        for (int f = now.corn.length - 1; f >= 0; f--) {
            int most = Math.max(fitting(f, 0).size(), fitting(f, 1).size());
            if (most <= least) {
                best = f;
                least = most;
            }
        }
        tell(least);
        return best;
    }

    // ---- dues

    long dues(int v) {
        if (v < 0 || v > 999) {
            return NONE;
        }
        int all = now.ropeCorn();
        if (all == 0) {
            return -2;
        }
        int many = now.right - now.left + 1;
        long[] coins = new long[many];
        int[] rest = new int[many];
        long left = v;
        for (int i = 0; i < many; i++) {
            coins[i] = v * now.corn[now.left + i] / all;
            rest[i] = v * now.corn[now.left + i] % all;
            left -= coins[i];
        }
        for (; left > 0; left--) {
            int best = 0;
            for (int i = 1; i < many; i++) {
                best = rest[i] > rest[best] ? i : best;
            }
            coins[best]++;
            rest[best] = -1;
        }
        tell(coins);
        return coins[0];
    }

    long cheapest(int k) {
        if (k < 1) {
            return NONE;
        }
        if (k > now.corn.length) {
            return -2;
        }
        long least = Long.MAX_VALUE;
        for (int l = 0; l + k <= now.corn.length; l++) {
            long paid = Arrays.stream(now.corn, l, l + k).sum();
            if (paid < least) {
                least = paid;
                tell(l, l + k - 1);
            }
        }
        return least;
    }

    long yard(int n) {
        if (n < 0 || n > 60) {
            return NONE;
        }
        if (now.left == now.right) {
            return -2;
        }
        Shot s = now.copy();
        s.right--;
        long shorter = s.after(n, rule).paid - now.paid;
        long as = now.after(n, rule).paid - now.paid;
        tell(shorter, as);
        return as - shorter;
    }

    long harvest(int n) {
        if (n < 0 || n > 60) {
            return NONE;
        }
        int best = 0;
        long most = -1;
        for (int i = 0; i <= n; i++) {
            long corn = Arrays.stream(now.after(i, rule).corn).sum();
            if (corn > most) {
                most = corn;
                best = i;
            }
        }
        tell(most);
        return best;
    }

    long owed(int f, int n) {
        if (!isFurrow(f) || n < 0 || n > 60) {
            return NONE;
        }
        long sum = 0;
        long times = 0;
        for (int i = 0; i < n; i++) {
            Shot s = now.after(i, rule);
            if (s.inMany() > 0 && s.left <= f && f <= s.right && s.corn[f] > 0) {
                sum += s.corn[f];
                times++;
            }
        }
        tell(times, now.after(n, rule).corn[f]);
        return sum;
    }

    // ---- floods, treaties, rules, years

    private void chance(int n, int p, int k, boolean twice) {
        BigInteger such = BigInteger.ZERO;
        for (int days = 0; days < 1 << n; days++) {
            boolean is = twice ? (days & days >> 1) != 0 : Integer.bitCount(days) >= k;
            if (is) {
                int wet = Integer.bitCount(days);
                such = such.add(BigInteger.valueOf(p).pow(wet).multiply(BigInteger.valueOf(10 - p).pow(n - wet)));
            }
        }
        fraction(such, BigInteger.TEN.pow(n));
    }

    long floods(int n, int k, int p) {
        if (n < 1 || n > 12 || k < 0 || k > 12 || p < 0 || p > 10) {
            return NONE;
        }
        chance(n, p, k, false);
        return 0;
    }

    long twice(int n, int p) {
        if (n < 1 || n > 12 || p < 0 || p > 10) {
            return NONE;
        }
        chance(n, p, 0, true);
        return 0;
    }

    long rests(int v, int f) {
        if (v < 0 || v > 20 || f < 0 || f > 9) {
            return NONE;
        }
        int[][] farmer = new int[10][10];
        int[][] regulars = new int[10][10];
        for (int x = 0; x < 10; x++) {
            for (int y = 0; y < 10; y++) {
                farmer[x][y] = x <= y ? x : f;
                regulars[x][y] = x <= y ? v - x : 0;
            }
        }
        List<long[]> pairs = new ArrayList<>();
        for (int x = 0; x < 10; x++) {
            for (int y = 0; y < 10; y++) {
                int most = Arrays.stream(regulars[x]).max().getAsInt();
                int mostOfFarmer = 0;
                for (int z = 0; z < 10; z++) {
                    mostOfFarmer = Math.max(mostOfFarmer, farmer[z][y]);
                }
                if (regulars[x][y] == most && farmer[x][y] == mostOfFarmer) {
                    pairs.add(new long[] {x, y});
                }
            }
        }
        tell(pairs.isEmpty() ? new long[] {} : pairs.get(0));
        return pairs.size();
    }

    long law() {
        String t = read();
        int wrong = t.isEmpty() ? -1 : Tree.wrong(t);
        if (wrong >= 0) {
            return -10000 - wrong;
        }
        long byIt = now.after(10, t).inMany();
        long byRule = now.after(10, rule).inMany();
        tell(byIt, byRule);
        return byIt - byRule;
    }

    private BigInteger drawn;

    private int draw(int n) {
        BigInteger all = BigInteger.ONE.shiftLeft(32);
        drawn = drawn.multiply(BigInteger.valueOf(1103515245)).add(BigInteger.valueOf(12345)).mod(all);
        return drawn.shiftRight(16).mod(BigInteger.valueOf(n)).intValue();
    }

    long years(int seed, int n) {
        if (n < 1 || n > 60) {
            return NONE;
        }
        drawn = BigInteger.valueOf(seed);
        Shot before = now;
        now = now.copy();
        for (int i = 0; i < n; i++) {
            int what = draw(4);
            if (what < 2) {
                now.cross(rule);
            } else if (now.people() > 0) {
                int one = draw(now.people());
                act(what == 2 ? 's' : 'g', one, what == 2 ? 0 : draw(now.people()));
            }
        }
        tell(now.sumBelief(), now.paid - before.paid);
        long in = now.inMany();
        now = before;
        return in;
    }

    // ---- kept

    long keep(int i) {
        if (i != 0 && i != 1) {
            return 0;
        }
        kept[i] = now.copy();
        return 1;
    }

    long again(int i) {
        if (i != 0 && i != 1 || kept[i] == null) {
            return 0;
        }
        now = kept[i].copy();
        past.clear();
        return 1;
    }

    long count(int what) {
        int all = (1 << now.people()) - 1;
        int glances = 0;
        for (int p = 0; p < now.people(); p++) {
            glances += now.seen(p).size();
        }
        int[] counts = {now.corn.length, now.left, now.right, now.people(), now.inBits(), now.signs, now.day, now.paid,
            now.ropeCorn(), digs.size(), past.size(), row.size(), text.length(), all - now.inBits(), glances};
        return what < 0 || what >= counts.length ? NONE : counts[what];
    }

    long row(int i) {
        if (i < 0 || i >= row.size()) {
            throw new NoSuchElementException();
        }
        return row.get(i);
    }
}
