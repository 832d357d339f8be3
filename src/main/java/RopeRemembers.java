import java.util.NoSuchElementException;

/**
 * A chain ferry that goes across a field since the river was moved, and the
 * people who sit in it as long as they believe in it.
 */
public final class RopeRemembers {
    public static final int NONE = -1;

    private static final int NOT_SO = -2;
    private static final int MISSING = -3;
    private static final int FINE = -1;
    private static final int LAW_REFUSED = -10000;

    private static final int FURROWS_MOST = 16;
    private static final int PEOPLE_MOST = 8;
    private static final int DIGIT_MOST = 9;
    private static final int TEXT_SIGNS = 80;
    private static final int PEOPLE_SIGNS = 76;
    private static final int WEEK_SIGNS = 60;
    private static final int RULE_SIGNS = 40;
    private static final int BRACKETS_MOST = 4;
    private static final int UNDO_MOST = 12;
    private static final int KEPT_MOST = 2;
    private static final int DIGS_MOST = 12;
    private static final int CROSSINGS_MOST = 60;
    private static final int LATER_MOST = 99;
    private static final int SETTLES_MOST = 200;
    private static final int SIGNS_CROSSINGS_MOST = 20;
    private static final int LAW_CROSSINGS = 10;
    private static final int DEPTH_MOST = 9;
    private static final int DUES_MOST = 999;
    private static final int FLOOD_DAYS_MOST = 12;
    private static final int TENTHS = 10;
    private static final int TREATY_MOST = 20;
    private static final int WEEK_DAYS = 7;

    private final Words text;
    private final Told told;
    private final State now;
    private final State trial;
    private final State ahead;
    private final Past past;
    private final Digs digs;
    private final FieldReader fieldReader;
    private final PeopleReader peopleReader;
    private final WeekReader weekReader;
    private final int[] trail;
    private final long[] chances;
    private final Draws draws;
    private Rule ruling;
    private Rule readRule;

    public RopeRemembers() {
        text = new Words();
        told = new Told();
        now = new State();
        trial = new State();
        ahead = new State();
        past = new Past();
        digs = new Digs();
        fieldReader = new FieldReader();
        peopleReader = new PeopleReader();
        weekReader = new WeekReader();
        trail = new int[SETTLES_MOST + 1];
        chances = new long[FLOOD_DAYS_MOST + 1];
        draws = new Draws();
        ruling = new Rule();
        readRule = new Rule();
    }

    // ---- the field, people

    public int sign(int v) {
        return text.add(v) ? text.length : NONE;
    }

    public boolean end(int n) {
        if (n < 0 || n > text.length) {
            return false;
        }
        text.length = n;
        return true;
    }

    public int field() {
        fieldReader.begin();
        int wrong = fieldReader.wrongAt(text, FURROWS_MOST);
        if (wrong >= 0) {
            return -1 - wrong;
        }
        now.lay(fieldReader);
        digs.clear();
        past.clear();
        return now.furrows;
    }

    public int people() {
        if (text.length == 0) {
            return 0;
        }
        peopleReader.begin(now.people);
        int wrong = peopleReader.wrongAt(text, PEOPLE_SIGNS);
        if (wrong >= 0) {
            return -1 - wrong;
        }
        now.join(peopleReader);
        past.clear();
        return peopleReader.lines;
    }

    public int rule() {
        int wrong = readAnotherRule();
        if (wrong >= 0) {
            return -1 - wrong;
        }
        Rule former = ruling;
        ruling = readRule;
        readRule = former;
        return 0;
    }

    public int furrow(int furrow, int what) throws NoSuchElementException {
        if (!now.isFurrow(furrow) || what < 0 || what > 1) {
            throw new NoSuchElementException("no such furrow, or nothing such of it");
        }
        if (what == 0) {
            return now.corn[furrow];
        }
        return now.isOfRope(furrow) ? 1 : 0;
    }

    public int person(int person, int what) throws NoSuchElementException {
        if (!now.isPerson(person) || what < 0 || what > 5) {
            throw new NoSuchElementException("nobody such, or nothing such of one");
        }
        switch (what) {
            case 0:
                return now.belief[person];
            case 1:
                return now.edge[person];
            case 2:
                return now.seenBy(person);
            case 3:
                return now.isIn(person) ? 1 : 0;
            case 4:
                return ruling.behind(now, person);
            default:
                return Integer.bitCount(now.whoSee(person));
        }
    }

    public int sheet(int kind, int n, int f, int step) {
        if (kind < 0 || kind > 3 || n > PEOPLE_MOST) {
            return NONE;
        }
        boolean missing = kind == 3;
        if (!missing && n < 0) {
            return NOT_SO;
        }
        int entries = missing ? 0 : n;
        for (int i = 0; i < now.people; i++) {
            now.belief[i] = i < entries ? digitOf(sheetEntry(kind, f + i * step)) : 0;
        }
        return missing ? MISSING : now.beliefOfAll();
    }

    private static int sheetEntry(int kind, int value) {
        if (kind == 0) {
            return (byte) value;
        }
        return kind == 1 ? (short) value : value;
    }

    private static int digitOf(int value) {
        return Math.max(0, Math.min(DIGIT_MOST, value));
    }

    /** Where THE TEXT is wrong first as a RULE, or FINE: then it was read. */
    private int readAnotherRule() {
        readRule.begin();
        return text.length == 0 ? FINE : readRule.wrongAt(text, RULE_SIGNS);
    }

    // ---- weeks

    public int crossing(int n) {
        if (n < 0 || n > CROSSINGS_MOST) {
            return NONE;
        }
        ahead.copy(now);
        int changes = now.cross(n, ruling);
        if (n > 0) {
            past.push(ahead);
        }
        told.two(now.paid - ahead.paid, changes);
        return now.howManyIn();
    }

    public int show(int person) {
        ahead.copy(now);
        return acted(now.showTo(person));
    }

    public int glance(int person, int other) {
        ahead.copy(now);
        return acted(now.turnEyes(person, other));
    }

    public int rope(int left, int right) {
        ahead.copy(now);
        return acted(now.moveRope(left, right));
    }

    public int sow(int furrow, int n) {
        ahead.copy(now);
        return acted(now.sowCorn(furrow, n));
    }

    public int week() {
        weekReader.begin();
        int wrong = weekReader.wrongAt(text, WEEK_SIGNS);
        if (wrong >= 0) {
            return -1 - wrong;
        }
        ahead.copy(now);
        int done = 0;
        boolean refused = false;
        for (int i = 0; i < weekReader.acts && !refused; i++) {
            refused = doAct(i) < 0;
            done += refused ? 0 : 1;
        }
        if (done > 0) {
            past.push(ahead);
        }
        told.two(refused ? 1 : 0, now.howManyIn());
        return done;
    }

    public int undo() {
        return past.pop(now) ? past.size : NONE;
    }

    /** What was done (not below 0) can be undone to what stood ahead of it. */
    private int acted(int answer) {
        if (answer >= 0) {
            past.push(ahead);
        }
        return answer;
    }

    private int doAct(int i) {
        if (i < 0 || i >= WEEK_SIGNS) {
            return NONE;
        }
        switch (weekReader.kinds[i]) {
            case 'c':
                return now.cross(weekReader.firsts[i], ruling);
            case 's':
                return now.showTo(weekReader.firsts[i]);
            case 'g':
                return now.turnEyes(weekReader.firsts[i], weekReader.seconds[i]);
            case '+':
                return now.moveRope(now.left, now.right + 1);
            default:
                return now.moveRope(now.left, now.right - 1);
        }
    }

    // ---- belief

    public int later(int n) {
        if (n < 0 || n > LATER_MOST) {
            return NONE;
        }
        int paid = tryCrossings(n, now.right);
        told.two(trial.beliefOfAll(), paid);
        return trial.inside();
    }

    public int settles() {
        trial.copy(now);
        trial.signs = 0;
        for (int at = 0; at <= SETTLES_MOST; at++) {
            trail[at] = trial.packedBelief();
            int first = firstLike(at);
            if (first < at) {
                told.one(at - first);
                return first;
            }
            trial.turn(ruling);
        }
        return NOT_SO;
    }

    public int leaves(int person) {
        if (!now.isPerson(person)) {
            return NONE;
        }
        trial.copy(now);
        for (int i = 1; i <= CROSSINGS_MOST; i++) {
            trial.turn(ruling);
            if (trial.isIn(person) != now.isIn(person)) {
                told.one(trial.belief[person]);
                return i;
            }
        }
        return NOT_SO;
    }

    public int signs(int those, int n) {
        if (!now.arePeople(those) || !isSignsCrossings(n)) {
            return NONE;
        }
        return fewestSigns(those, n, false);
    }

    public int empties(int n) {
        return isSignsCrossings(n) ? fewestSigns(now.everybody(), n, true) : NONE;
    }

    public int weakest(int n) {
        if (!isSignsCrossings(n)) {
            return NONE;
        }
        int weak = NOT_SO;
        int fewest = PEOPLE_MOST + 1;
        for (int i = 0; i < now.people; i++) {
            if ((now.signs >> i & 1) == 1) {
                continue;
            }
            trial.believeFrom(now, 1 << i, ruling, n, false);
            int inside = trial.howManyIn();
            if (inside < fewest) {
                weak = i;
                fewest = inside;
            }
        }
        if (weak >= 0) {
            trial.believeFrom(now, 0, ruling, n, false);
            told.two(fewest, trial.howManyIn());
        }
        return weak;
    }

    public int mean() {
        int inside = now.howManyIn();
        int sum = 0;
        for (int i = 0; i < now.people; i++) {
            sum += now.isIn(i) ? now.belief[i] : 0;
        }
        tellFraction(sum, inside);
        return inside;
    }

    private static boolean isSignsCrossings(int n) {
        return n >= 1 && n <= SIGNS_CROSSINGS_MOST;
    }

    /** Crosses in the trial, THE ROPE going to a RIGHT: what is PAID in these. */
    private int tryCrossings(int n, int right) {
        trial.copy(now);
        trial.right = right;
        trial.cross(n, ruling);
        return trial.paid - now.paid;
    }

    /** The first place of the trail like the last one; only whole weeks back DAY is the same. */
    private int firstLike(int last) {
        for (int i = last % WEEK_DAYS; i < last; i += WEEK_DAYS) {
            if (trail[i] == trail[last]) {
                return i;
            }
        }
        return last;
    }

    private int fewestSigns(int those, int n, boolean tillEmpty) {
        int useful = whomSignsMove();
        int fewest = PEOPLE_MOST + 1;
        int found = 0;
        int sets = 1 << now.people;
        for (int set = 0; set < sets; set++) {
            int size = Integer.bitCount(set);
            if ((set & ~useful) != 0 || size >= fewest) {
                continue;
            }
            trial.believeFrom(now, set, ruling, n, tillEmpty);
            if ((trial.inside() & those) == 0) {
                fewest = size;
                found = set;
            }
        }
        if (fewest > PEOPLE_MOST) {
            return NOT_SO;
        }
        told.one(found);
        return fewest;
    }

    /** A sign that leaves belief as it is without it is never one of the fewest. */
    private int whomSignsMove() {
        trial.copy(now);
        trial.signs = now.everybody();
        int moved = 0;
        for (int i = 0; i < now.people; i++) {
            if (ruling.behind(now, i) != ruling.behind(trial, i)) {
                moved |= 1 << i;
            }
        }
        return moved;
    }

    private void tellFraction(long upper, long lower) {
        if (upper <= 0 || lower <= 0) {
            told.two(0, 1);
            return;
        }
        long divisor = commonDivisor(upper, lower);
        if (divisor > 0) {
            told.two(upper / divisor, lower / divisor);
        }
    }

    private static long commonDivisor(long one, long other) {
        long greater = one;
        long less = other;
        for (int i = 0; i < 200 && less != 0; i++) {
            long rest = greater % less;
            greater = less;
            less = rest;
        }
        return greater;
    }

    // ---- glances

    public int depends(int person) {
        if (!now.isPerson(person)) {
            return NONE;
        }
        int on = dependsOn(person);
        int dependants = 0;
        for (int i = 0; i < now.people; i++) {
            dependants += dependsOn(i) >> person & 1;
        }
        told.two(Integer.bitCount(on), dependants);
        return on;
    }

    public int cut(int person, int other) {
        if (!now.isPerson(person) || !now.isPerson(other) || person == other) {
            return NONE;
        }
        int fewest = PEOPLE_MOST * PEOPLE_MOST;
        int found = 0;
        int sets = 1 << now.people;
        for (int set = 0; set < sets; set++) {
            boolean parts = (set >> person & 1) == 1 && (set >> other & 1) == 0;
            int out = parts ? glancesOut(set) : fewest;
            if (out < fewest) {
                fewest = out;
                found = set;
            }
        }
        told.one(found);
        return fewest;
    }

    public int faces() {
        int most = NOT_SO;
        int first = 0;
        int second = 0;
        for (int i = 0; i < now.people; i++) {
            for (int j = i + 1; j < now.people; j++) {
                int inside = seeEachOther(i, j) ? NOT_SO : howManyFaceToFace(i, j);
                if (inside > most) {
                    most = inside;
                    first = i;
                    second = j;
                }
            }
        }
        if (most >= 0) {
            told.two(first, second);
        }
        return most;
    }

    public int knows(int k) {
        if (k < 0 || k > DEPTH_MOST) {
            return NONE;
        }
        int knowing = now.outside();
        int known = knowing;
        int settled = 0;
        // Each depth knows less or the same, so past PEOPLE_MOST of them nothing changes.
        for (int depth = 1; depth <= DEPTH_MOST; depth++) {
            int deeper = knowsDeeper(knowing);
            settled = deeper == knowing ? settled : depth;
            knowing = deeper;
            known = depth == k ? deeper : known;
        }
        told.two(Integer.bitCount(known), settled);
        return known;
    }

    public int circle() {
        int most = 0;
        int found = 0;
        int sets = 1 << now.people;
        for (int set = 0; set < sets; set++) {
            if (Integer.bitCount(set) > most && allSeeEachOther(set)) {
                most = Integer.bitCount(set);
                found = set;
            }
        }
        told.one(found);
        return most;
    }

    public int spreads(int some) {
        if (!now.arePeople(some)) {
            return NONE;
        }
        int had = some;
        int have = some;
        int steps = 0;
        for (int i = 0; i <= PEOPLE_MOST; i++) {
            int more = have | whoSeeOneOf(have);
            if (more != have) {
                had = have;
                have = more;
                steps++;
            }
        }
        told.two(have, had);
        return steps;
    }

    public int unlike() {
        told.clear();
        int pairs = 0;
        for (int i = 0; i < now.people; i++) {
            for (int j = i + 1; j < now.people; j++) {
                if (now.isIn(i) != now.isIn(j) && (now.sees(i, j) || now.sees(j, i))) {
                    pairs++;
                    if (pairs == 1) {
                        told.two(i, j);
                    }
                }
            }
        }
        return pairs;
    }

    private int dependsOn(int person) {
        int on = now.seenBy(person);
        for (int step = 0; step < PEOPLE_MOST; step++) {
            int more = on;
            for (int i = 0; i < now.people; i++) {
                more |= (on >> i & 1) == 1 ? now.seenBy(i) : 0;
            }
            on = more;
        }
        return on;
    }

    private int glancesOut(int set) {
        int out = 0;
        for (int i = 0; i < now.people; i++) {
            out += (set >> i & 1) == 1 ? Integer.bitCount(now.seenBy(i) & ~set) : 0;
        }
        return out;
    }

    private boolean seeEachOther(int one, int other) {
        return now.sees(one, other) && now.sees(other, one);
    }

    private int howManyFaceToFace(int one, int other) {
        trial.copy(now);
        trial.seen[one] |= 1 << other;
        trial.seen[other] |= 1 << one;
        trial.cross(2, ruling);
        return trial.howManyIn();
    }

    private int knowsDeeper(int knowing) {
        int deeper = 0;
        for (int i = 0; i < now.people; i++) {
            if (!now.isIn(i) && (now.seenBy(i) & ~knowing) == 0) {
                deeper |= 1 << i;
            }
        }
        return deeper;
    }

    private boolean allSeeEachOther(int set) {
        for (int i = 0; i < now.people; i++) {
            int others = set & ~(1 << i);
            if ((set >> i & 1) == 1 && (others & ~now.seenBy(i)) != 0) {
                return false;
            }
        }
        return true;
    }

    private int whoSeeOneOf(int set) {
        int who = 0;
        for (int i = 0; i < now.people; i++) {
            who |= (now.seenBy(i) & set) != 0 ? 1 << i : 0;
        }
        return who;
    }

    // ---- where the water was

    public int dig(int furrow, int is) {
        if (!now.isFurrow(furrow) || is < 0 || is > 1 || digs.size >= DIGS_MOST) {
            return NONE;
        }
        digs.add(furrow, is == 1);
        return digs.size;
    }

    public int forget() {
        int size = digs.size;
        digs.clear();
        return size;
    }

    public int courses() {
        told.clear();
        int fitting = 0;
        // From narrow to wide, so that the first that fits is the narrowest.
        for (int width = 1; width <= now.furrows; width++) {
            for (int l = 0; l + width <= now.furrows; l++) {
                if (digs.fit(l, l + width - 1)) {
                    fitting++;
                    if (fitting == 1) {
                        told.two(l, l + width - 1);
                    }
                }
            }
        }
        return fitting;
    }

    public int sure() {
        int inAll = 0;
        int inNone = 0;
        int all = digs.coursesWith(now.furrows, Digs.ANY);
        for (int i = 0; i < now.furrows && all > 0; i++) {
            int with = digs.coursesWith(now.furrows, i);
            inAll |= with == all ? 1 << i : 0;
            inNone |= with == 0 ? 1 << i : 0;
        }
        told.one(inNone);
        return inAll;
    }

    public int next() {
        int all = digs.coursesWith(now.furrows, Digs.ANY);
        if (all == 0) {
            return NOT_SO;
        }
        int best = 0;
        int fewest = all + 1;
        for (int i = 0; i < now.furrows; i++) {
            int with = digs.coursesWith(now.furrows, i);
            int left = Math.max(with, all - with);
            if (left < fewest) {
                best = i;
                fewest = left;
            }
        }
        told.one(fewest);
        return best;
    }

    // ---- dues

    public int dues(int v) {
        if (v < 0 || v > DUES_MOST) {
            return NONE;
        }
        int all = now.cornOf(now.left, now.right);
        if (all <= 0) {
            return NOT_SO;
        }
        int rest = v;
        for (int i = now.left; i <= now.right; i++) {
            rest -= v * now.corn[i] / all;
        }
        told.clear();
        for (int i = now.left; i <= now.right; i++) {
            int more = duesRank(v, all, i) < rest ? 1 : 0;
            told.add(v * now.corn[i] / all + more);
        }
        return (int) told.number(0);
    }

    public int cheapest(int k) {
        if (k < 1) {
            return NONE;
        }
        if (k > now.furrows) {
            return NOT_SO;
        }
        int left = 0;
        int least = now.cornOf(0, k - 1);
        for (int i = 1; i + k <= now.furrows; i++) {
            int paid = now.cornOf(i, i + k - 1);
            if (paid < least) {
                left = i;
                least = paid;
            }
        }
        told.two(left, left + k - 1);
        return least;
    }

    public int yard(int n) {
        if (n < 0 || n > CROSSINGS_MOST) {
            return NONE;
        }
        if (now.left >= now.right) {
            return NOT_SO;
        }
        int longer = tryCrossings(n, now.right);
        int shorter = tryCrossings(n, now.right - 1);
        told.two(shorter, longer);
        return longer - shorter;
    }

    public int harvest(int n) {
        if (n < 0 || n > CROSSINGS_MOST) {
            return NONE;
        }
        trial.copy(now);
        int best = 0;
        int most = trial.cornOfAll();
        for (int i = 1; i <= n; i++) {
            trial.cross(1, ruling);
            if (trial.cornOfAll() > most) {
                best = i;
                most = trial.cornOfAll();
            }
        }
        told.one(most);
        return best;
    }

    public int owed(int furrow, int n) {
        if (!now.isFurrow(furrow) || n < 0 || n > CROSSINGS_MOST) {
            return NONE;
        }
        trial.copy(now);
        int sum = 0;
        int times = 0;
        for (int i = 0; i < n; i++) {
            int paid = trial.isOfRope(furrow) && trial.inside() != 0 ? trial.corn[furrow] : 0;
            sum += paid;
            times += paid > 0 ? 1 : 0;
            trial.cross(1, ruling);
        }
        told.two(times, trial.corn[furrow]);
        return sum;
    }

    /** How many FURROWS of THE ROPE have a greater rest than one, or a like one ahead of it. */
    private int duesRank(int v, int all, int furrow) {
        int own = duesRest(v, all, furrow);
        int rank = 0;
        for (int i = now.left; i <= now.right; i++) {
            int rest = duesRest(v, all, i);
            rank += rest > own || (rest == own && i < furrow) ? 1 : 0;
        }
        return rank;
    }

    private int duesRest(int v, int all, int furrow) {
        return all > 0 ? v * now.corn[furrow] % all : 0;
    }

    // ---- floods, treaties, rules, years

    public int floods(int n, int k, int p) {
        if (!areFloods(n, p) || k < 0 || k > FLOOD_DAYS_MOST) {
            return NONE;
        }
        fillChances(n, p);
        long such = 0;
        long all = 0;
        for (int i = 0; i <= n; i++) {
            all += chances[i];
            such += i >= k ? chances[i] : 0;
        }
        tellFraction(such, all);
        return 0;
    }

    public int twice(int n, int p) {
        if (!areFloods(n, p)) {
            return NONE;
        }
        long dry = 1;
        long wet = 0;
        long pair = 0;
        for (int day = 0; day < n; day++) {
            pair = pair * TENTHS + wet * p;
            long wetNow = dry * p;
            dry = (dry + wet) * (TENTHS - p);
            wet = wetNow;
        }
        tellFraction(pair, pair + dry + wet);
        return 0;
    }

    public int rests(int v, int f) {
        if (v < 0 || v > TREATY_MOST || f < 0 || f > DIGIT_MOST) {
            return NONE;
        }
        told.clear();
        int pairs = 0;
        for (int x = 0; x <= DIGIT_MOST; x++) {
            for (int y = 0; y <= DIGIT_MOST; y++) {
                if (isTreatyAtRest(x, y, v, f)) {
                    pairs++;
                    if (pairs == 1) {
                        told.two(x, y);
                    }
                }
            }
        }
        return pairs;
    }

    public int law() {
        int wrong = readAnotherRule();
        if (wrong >= 0) {
            return LAW_REFUSED - wrong;
        }
        trial.believeFrom(now, 0, readRule, LAW_CROSSINGS, false);
        int byIt = trial.howManyIn();
        trial.believeFrom(now, 0, ruling, LAW_CROSSINGS, false);
        int byRule = trial.howManyIn();
        told.two(byIt, byRule);
        return byIt - byRule;
    }

    public int years(int seed, int n) {
        if (n < 1 || n > CROSSINGS_MOST) {
            return NONE;
        }
        trial.copy(now);
        draws.drawn = seed;
        for (int i = 0; i < n; i++) {
            passYear();
        }
        told.two(trial.beliefOfAll(), trial.paid - now.paid);
        return trial.howManyIn();
    }

    private static boolean areFloods(int n, int p) {
        return n >= 1 && n <= FLOOD_DAYS_MOST && p >= 0 && p <= TENTHS;
    }

    /** How often, of TENTHS to the power of n, it floods on 0, 1, .. of n days. */
    private void fillChances(int n, int p) {
        for (int i = 0; i < chances.length; i++) {
            chances[i] = i == 0 ? 1 : 0;
        }
        for (int day = 1; day <= n; day++) {
            for (int i = chances.length - 1; i > 0; i--) {
                chances[i] = chances[i] * (TENTHS - p) + chances[i - 1] * p;
            }
            chances[0] *= TENTHS - p;
        }
    }

    private static boolean isTreatyAtRest(int x, int y, int v, int f) {
        for (int other = 0; other <= DIGIT_MOST; other++) {
            if (farmerHas(other, y, f) > farmerHas(x, y, f) || regularsHave(x, other, v) > regularsHave(x, y, v)) {
                return false;
            }
        }
        return true;
    }

    private static int farmerHas(int x, int y, int f) {
        return y >= x ? x : f;
    }

    private static int regularsHave(int x, int y, int v) {
        return y >= x ? v - x : 0;
    }

    private void passYear() {
        int what = draws.draw(4);
        if (what < 2) {
            trial.cross(1, ruling);
        } else if (trial.people > 0) {
            int one = draws.draw(trial.people);
            if (what == 2) {
                trial.signs |= 1 << one;
            } else {
                trial.turnEyes(one, draws.draw(trial.people));
            }
        }
    }

    // ---- kept

    public boolean keep(int i) {
        return past.keepUnder(i, now);
    }

    public boolean again(int i) {
        return past.bringBack(i, now);
    }

    public int count(int what) {
        switch (what) {
            case 0:
                return now.furrows;
            case 1:
                return now.left;
            case 2:
                return now.right;
            case 3:
                return now.people;
            case 4:
                return now.inside();
            case 5:
                return now.signs;
            case 6:
                return now.day;
            case 7:
                return now.paid;
            case 8:
                return now.cornOf(now.left, now.right);
            case 9:
                return digs.size;
            case 10:
                return past.size;
            case 11:
                return told.size;
            case 12:
                return text.length;
            case 13:
                return now.outside();
            case 14:
                return now.glances();
            default:
                return NONE;
        }
    }

    public long row(int i) throws NoSuchElementException {
        if (i < 0 || i >= told.size) {
            throw new NoSuchElementException("the row has no such number");
        }
        return told.number(i);
    }

    /** THE TEXT: signs that were told and not yet read. */
    private static final class Words {
        private final int[] signs = new int[TEXT_SIGNS];
        private int length;

        boolean add(int v) {
            if (length < 0 || length + 4 > signs.length) {
                return false;
            }
            for (int i = 0; i < 4; i++) {
                signs[length + i] = v >>> (24 - 8 * i) & 255;
            }
            length += 4;
            return true;
        }

        int signAt(int p) {
            return p >= 0 && p < signs.length ? signs[p] : 0;
        }
    }

    /** THE ROW. */
    private static final class Told {
        private final long[] numbers = new long[FURROWS_MOST];
        private int size;

        void clear() {
            size = 0;
        }

        void add(long number) {
            if (size >= 0 && size < numbers.length) {
                numbers[size] = number;
                size++;
            }
        }

        void one(long number) {
            size = 0;
            add(number);
        }

        void two(long first, long second) {
            size = 0;
            add(first);
            add(second);
        }

        long number(int i) {
            return i >= 0 && i < numbers.length ? numbers[i] : 0;
        }
    }

    /** All that a CROSSING changes or looks at, but for THE RULE. */
    private static final class State {
        private final int[] corn = new int[FURROWS_MOST];
        private final int[] belief = new int[PEOPLE_MOST];
        private final int[] coming = new int[PEOPLE_MOST];
        private final int[] edge = new int[PEOPLE_MOST];
        private final int[] seen = new int[PEOPLE_MOST];
        private int furrows = 1;
        private int left;
        private int right;
        private int people;
        private int signs;
        private int day;
        private int paid;

        void copy(State other) {
            System.arraycopy(other.corn, 0, corn, 0, FURROWS_MOST);
            System.arraycopy(other.belief, 0, belief, 0, PEOPLE_MOST);
            System.arraycopy(other.edge, 0, edge, 0, PEOPLE_MOST);
            System.arraycopy(other.seen, 0, seen, 0, PEOPLE_MOST);
            furrows = other.furrows;
            left = other.left;
            right = other.right;
            people = other.people;
            signs = other.signs;
            day = other.day;
            paid = other.paid;
        }

        void lay(FieldReader read) {
            furrows = Math.max(1, Math.min(FURROWS_MOST, read.size));
            for (int i = 0; i < furrows; i++) {
                corn[i] = read.corn[i];
            }
            left = 0;
            right = furrows - 1;
        }

        void join(PeopleReader read) {
            for (int i = 0; i < read.lines && people < PEOPLE_MOST; i++) {
                belief[people] = read.belief[i];
                edge[people] = read.edge[i];
                seen[people] = read.seen[i];
                people++;
            }
        }

        boolean isFurrow(int furrow) {
            return furrow >= 0 && furrow < furrows;
        }

        boolean isOfRope(int furrow) {
            return furrow >= left && furrow <= right;
        }

        boolean isPerson(int person) {
            return person >= 0 && person < people;
        }

        boolean arePeople(int set) {
            return (set & ~everybody()) == 0;
        }

        int everybody() {
            return (1 << people) - 1;
        }

        boolean isIn(int person) {
            return belief[person] >= edge[person];
        }

        int inside() {
            int set = 0;
            for (int i = 0; i < people; i++) {
                set |= isIn(i) ? 1 << i : 0;
            }
            return set;
        }

        int outside() {
            return everybody() & ~inside();
        }

        int howManyIn() {
            return Integer.bitCount(inside());
        }

        int seenBy(int person) {
            return seen[person] & everybody();
        }

        boolean sees(int person, int other) {
            return (seen[person] >> other & 1) == 1;
        }

        int whoSee(int person) {
            int set = 0;
            for (int i = 0; i < people; i++) {
                set |= sees(i, person) ? 1 << i : 0;
            }
            return set;
        }

        int glances() {
            int sum = 0;
            for (int i = 0; i < people; i++) {
                sum += Integer.bitCount(seenBy(i));
            }
            return sum;
        }

        int beliefOfAll() {
            int sum = 0;
            for (int i = 0; i < people; i++) {
                sum += belief[i];
            }
            return sum;
        }

        /** Like for like BELIEFS alone: four bits for each. */
        int packedBelief() {
            int packed = 0;
            for (int i = 0; i < people; i++) {
                packed = packed << 4 | belief[i];
            }
            return packed;
        }

        int cornOf(int from, int to) {
            int sum = 0;
            for (int i = Math.max(0, from); i <= to && i < furrows; i++) {
                sum += corn[i];
            }
            return sum;
        }

        int cornOfAll() {
            return cornOf(0, furrows - 1);
        }

        int showTo(int person) {
            if (!isPerson(person)) {
                return NONE;
            }
            if ((signs >> person & 1) == 1) {
                return NOT_SO;
            }
            signs |= 1 << person;
            return signs;
        }

        int turnEyes(int person, int other) {
            if (!isPerson(person) || !isPerson(other) || person == other) {
                return NONE;
            }
            seen[person] ^= 1 << other;
            return Integer.bitCount(seenBy(person));
        }

        int moveRope(int from, int to) {
            if (!isFurrow(from) || !isFurrow(to)) {
                return NONE;
            }
            if (from > to) {
                return NOT_SO;
            }
            left = from;
            right = to;
            return to - from + 1;
        }

        int sowCorn(int furrow, int n) {
            if (!isFurrow(furrow) || n < 1 || n > DIGIT_MOST) {
                return NONE;
            }
            corn[furrow] = Math.min(DIGIT_MOST, corn[furrow] + n);
            return corn[furrow];
        }

        /** n CROSSINGS: how many changed from IN to OUT or back in these. */
        int cross(int n, Rule by) {
            int changes = 0;
            for (int i = 0; i < n; i++) {
                int inside = inside();
                paid += inside != 0 ? cornOf(left, right) : 0;
                part(inside != 0);
                turn(by);
                changes += Integer.bitCount(inside ^ inside());
            }
            return changes;
        }

        private void part(boolean ridden) {
            for (int i = 0; i < furrows; i++) {
                if (!isOfRope(i)) {
                    corn[i] = Math.min(DIGIT_MOST, corn[i] + 1);
                } else if (ridden) {
                    corn[i] = Math.max(0, corn[i] - 1);
                }
            }
        }

        /** What a CROSSING does beside the corn: whether somebody's BELIEF is another one. */
        boolean turn(Rule by) {
            boolean moved = false;
            for (int i = 0; i < people; i++) {
                coming[i] = by.behind(this, i);
                moved |= coming[i] != belief[i];
            }
            System.arraycopy(coming, 0, belief, 0, people);
            signs = 0;
            day++;
            return moved;
        }

        /**
         * BELIEF behind n CROSSINGS from another state on, with signs besides;
         * DAY and corn are left where nothing would move any more.
         */
        void believeFrom(State start, int shown, Rule by, int n, boolean tillEmpty) {
            copy(start);
            signs |= shown;
            for (int i = 0; i < n; i++) {
                boolean alike = signs == 0 && !by.readsDay;
                boolean moved = turn(by);
                if ((alike && !moved) || (tillEmpty && inside() == 0)) {
                    return;
                }
            }
        }
    }

    /** Takes a text sign by sign, so that the first sign that can't stand there is found. */
    private abstract static class Reader {
        abstract boolean takes(int sign);

        abstract boolean takesEnd();

        /** Reads a text, which is empty then: where it is wrong first, or FINE. */
        int wrongAt(Words words, int most) {
            int length = words.length;
            words.length = 0;
            for (int p = 0; p < length; p++) {
                if (p >= most || !takes(words.signAt(p))) {
                    return p;
                }
            }
            return takesEnd() ? FINE : length;
        }

        static boolean isDigit(int sign) {
            return sign >= '0' && sign <= '9';
        }

        static boolean isLetter(int sign) {
            return sign >= 'a' && sign < 'a' + PEOPLE_MOST;
        }
    }

    private static final class FieldReader extends Reader {
        private final int[] corn = new int[FURROWS_MOST];
        private int size;

        void begin() {
            size = 0;
        }

        boolean takes(int sign) {
            if (!isDigit(sign) || size < 0 || size >= corn.length) {
                return false;
            }
            corn[size] = sign - '0';
            size++;
            return true;
        }

        boolean takesEnd() {
            return size > 0;
        }
    }

    private static final class PeopleReader extends Reader {
        private final int[] belief = new int[PEOPLE_MOST];
        private final int[] edge = new int[PEOPLE_MOST];
        private final int[] seen = new int[PEOPLE_MOST];
        private int already;
        private int lines;
        private int place;

        void begin(int people) {
            already = people;
            lines = 0;
            place = 0;
        }

        boolean takes(int sign) {
            if (place == 0) {
                return takesBelief(sign);
            }
            int line = lines - 1;
            if (line < 0 || line >= PEOPLE_MOST) {
                return false;
            }
            if (place == 1) {
                return takesEdge(sign, line);
            }
            if (sign == ';') {
                place = 0;
                return true;
            }
            return takesLetter(sign, line);
        }

        private boolean takesBelief(int sign) {
            if (!isDigit(sign) || lines < 0 || already + lines >= PEOPLE_MOST) {
                return false;
            }
            belief[lines] = sign - '0';
            lines++;
            place = 1;
            return true;
        }

        private boolean takesEdge(int sign, int line) {
            if (!isDigit(sign)) {
                return false;
            }
            edge[line] = sign - '0';
            seen[line] = 0;
            place = 2;
            return true;
        }

        private boolean takesLetter(int sign, int line) {
            int other = sign - 'a';
            // Letters rise: none that is as high or higher may be there already.
            if (!isLetter(sign) || other == already + line || seen[line] >> other != 0) {
                return false;
            }
            seen[line] |= 1 << other;
            return true;
        }

        boolean takesEnd() {
            return place == 2;
        }
    }

    private static final class WeekReader extends Reader {
        private final int[] kinds = new int[WEEK_SIGNS];
        private final int[] firsts = new int[WEEK_SIGNS];
        private final int[] seconds = new int[WEEK_SIGNS];
        private int acts;
        private int kind;
        private int first;

        void begin() {
            acts = 0;
            kind = 0;
            first = NONE;
        }

        boolean takes(int sign) {
            switch (kind) {
                case 0:
                    return takesKind(sign);
                case 'c':
                    return isDigit(sign) && takesAct(sign - '0', 0);
                case 's':
                    return isLetter(sign) && takesAct(sign - 'a', 0);
                default:
                    return isLetter(sign) && takesGlance(sign - 'a');
            }
        }

        private boolean takesKind(int sign) {
            kind = sign;
            if (sign == '+' || sign == '-') {
                return takesAct(0, 0);
            }
            return sign == 'c' || sign == 's' || sign == 'g';
        }

        private boolean takesGlance(int person) {
            if (first >= 0) {
                return takesAct(first, person);
            }
            first = person;
            return true;
        }

        private boolean takesAct(int one, int other) {
            if (acts < 0 || acts >= kinds.length) {
                return false;
            }
            kinds[acts] = kind;
            firsts[acts] = one;
            seconds[acts] = other;
            acts++;
            kind = 0;
            first = NONE;
            return true;
        }

        boolean takesEnd() {
            return kind == 0;
        }
    }

    /**
     * THE RULE, turned round while it is read: things first, what joins them
     * behind. Without a sign it is the one that holds at first.
     */
    private static final class Rule extends Reader {
        private static final int LETTERS = 1000;
        private static final int NEGATE = '~';
        private static final int B = 0;
        private static final int A = 1;
        private static final int N = 2;
        private static final int X = 3;
        private static final int G = 4;
        private static final int D = 5;
        private static final int E = 6;

        private final int[] code = new int[RULE_SIGNS];
        private final int[] waiting = new int[RULE_SIGNS];
        private final int[] values = new int[RULE_SIGNS + 1];
        private final int[] things = new int[E + 1];
        private int size;
        private int waits;
        private int digits;
        private int depth;
        private int compared;
        private boolean behindThing;
        private boolean readsDay;

        void begin() {
            size = 0;
            waits = 0;
            digits = 0;
            depth = 0;
            compared = 0;
            behindThing = false;
            readsDay = false;
        }

        boolean takes(int sign) {
            return behindThing ? takesBehindThing(sign) : takesThing(sign);
        }

        private boolean takesThing(int sign) {
            if (sign == '-') {
                return await(NEGATE);
            }
            if (sign == '(') {
                return opens();
            }
            if (isDigit(sign)) {
                digits = 1;
                return putThing(sign - '0');
            }
            int which = whichThing(sign);
            if (which < 0) {
                return false;
            }
            readsDay |= which == D;
            return putThing(LETTERS + which);
        }

        private static int whichThing(int sign) {
            switch (sign) {
                case 'b':
                    return B;
                case 'a':
                    return A;
                case 'n':
                    return N;
                case 'x':
                    return X;
                case 'g':
                    return G;
                case 'd':
                    return D;
                case 'e':
                    return E;
                default:
                    return NONE;
            }
        }

        private boolean putThing(int part) {
            behindThing = true;
            return put(part);
        }

        private boolean opens() {
            if (depth >= BRACKETS_MOST) {
                return false;
            }
            depth++;
            compared &= ~(1 << depth);
            return await('(');
        }

        private boolean takesBehindThing(int sign) {
            if (isDigit(sign)) {
                return takesDigit(sign - '0');
            }
            digits = 0;
            if (sign == ')') {
                return closes();
            }
            int rank = rankOf(sign);
            if (rank == 0 || (rank == 1 && (compared >> depth & 1) == 1)) {
                return false;
            }
            compared |= rank == 1 ? 1 << depth : 0;
            unwind(rank);
            behindThing = false;
            return await(sign);
        }

        private boolean takesDigit(int digit) {
            int last = size - 1;
            if (digits < 1 || digits > 2 || last < 0 || last >= code.length) {
                return false;
            }
            code[last] = code[last] * 10 + digit;
            digits++;
            return true;
        }

        private boolean closes() {
            if (depth == 0) {
                return false;
            }
            unwind(1);
            waits = Math.max(0, waits - 1);
            depth--;
            return true;
        }

        boolean takesEnd() {
            if (!behindThing || depth > 0) {
                return false;
            }
            unwind(1);
            return true;
        }

        /** How strongly a sign binds; 0 for one that joins nothing. */
        private static int rankOf(int sign) {
            switch (sign) {
                case '<':
                case '>':
                case '=':
                    return 1;
                case '+':
                case '-':
                    return 2;
                case '*':
                case '/':
                    return 3;
                default:
                    return 0;
            }
        }

        private void unwind(int rank) {
            for (int i = waits - 1; i >= 0 && i < waiting.length; i--) {
                int sign = waiting[i];
                if (sign != NEGATE && rankOf(sign) < rank) {
                    return;
                }
                put(-sign);
                waits = i;
            }
        }

        private boolean await(int sign) {
            if (waits < 0 || waits >= waiting.length) {
                return false;
            }
            waiting[waits] = sign;
            waits++;
            return true;
        }

        private boolean put(int part) {
            if (size < 0 || size >= code.length) {
                return false;
            }
            code[size] = part;
            size++;
            return true;
        }

        /** BELIEF of one of PEOPLE behind a CROSSING. */
        int behind(State state, int person) {
            lookAt(state, person);
            return digitOf(size == 0 ? (things[B] + things[A] + 1) / 2 - things[G] * 3 : worked());
        }

        private void lookAt(State state, int person) {
            int sum = 0;
            int many = 0;
            int out = 0;
            for (int i = 0; i < state.people; i++) {
                if ((state.seen[person] >> i & 1) == 1) {
                    sum += state.belief[i];
                    many++;
                    out += state.belief[i] < state.edge[i] ? 1 : 0;
                }
            }
            things[B] = state.belief[person];
            things[A] = many == 0 ? state.belief[person] : sum / many;
            things[N] = many;
            things[X] = out;
            things[G] = state.signs >> person & 1;
            things[D] = state.day % WEEK_DAYS;
            things[E] = state.edge[person];
        }

        private int worked() {
            int top = 0;
            for (int i = 0; i < size && i < code.length && top < values.length; i++) {
                int part = code[i];
                if (part >= 0) {
                    values[top] = part < LETTERS ? part : thing(part - LETTERS);
                    top++;
                } else if (part == -NEGATE && top > 0) {
                    values[top - 1] = -values[top - 1];
                } else if (top > 1) {
                    top--;
                    values[top - 1] = joined(values[top - 1], -part, values[top]);
                }
            }
            return values[0];
        }

        private int thing(int which) {
            return which >= 0 && which < things.length ? things[which] : 0;
        }

        private static int joined(int first, int sign, int second) {
            switch (sign) {
                case '+':
                    return first + second;
                case '-':
                    return first - second;
                case '*':
                    return first * second;
                case '/':
                    return second == 0 ? 0 : first / second;
                case '<':
                    return first < second ? 1 : 0;
                case '>':
                    return first > second ? 1 : 0;
                default:
                    return first == second ? 1 : 0;
            }
        }
    }

    /** What can be undone, the latest last, and what was kept under a number. */
    private static final class Past {
        private final State[] steps = new State[UNDO_MOST];
        private final State[] kept = new State[KEPT_MOST];
        private int size;
        private int keptBits;

        Past() {
            for (int i = 0; i < steps.length; i++) {
                steps[i] = new State();
            }
            for (int i = 0; i < kept.length; i++) {
                kept[i] = new State();
            }
        }

        void clear() {
            size = 0;
            keptBits = 0;
        }

        void push(State ahead) {
            if (size >= steps.length) {
                dropEldest();
            }
            State step = size >= 0 && size < steps.length ? steps[size] : null;
            if (step != null) {
                step.copy(ahead);
                size++;
            }
        }

        /** The eldest's row is used again for the next one, so that none is made anew. */
        private void dropEldest() {
            State eldest = steps[0];
            for (int i = 1; i < steps.length; i++) {
                steps[i - 1] = steps[i];
            }
            steps[steps.length - 1] = eldest;
            size = steps.length - 1;
        }

        boolean pop(State into) {
            int last = size - 1;
            State step = last >= 0 && last < steps.length ? steps[last] : null;
            if (step == null) {
                return false;
            }
            into.copy(step);
            size = last;
            return true;
        }

        boolean keepUnder(int i, State state) {
            State place = i >= 0 && i < kept.length ? kept[i] : null;
            if (place == null) {
                return false;
            }
            place.copy(state);
            keptBits |= 1 << i;
            return true;
        }

        boolean bringBack(int i, State into) {
            State place = i >= 0 && i < kept.length ? kept[i] : null;
            if (place == null || (keptBits >> i & 1) == 0) {
                return false;
            }
            into.copy(place);
            size = 0;
            return true;
        }
    }

    /** What was dug: of a FURROW only counts whether stones, or none, were found there once. */
    private static final class Digs {
        private static final int ANY = -1;

        private int size;
        private int stones;
        private int bare;

        void clear() {
            size = 0;
            stones = 0;
            bare = 0;
        }

        void add(int furrow, boolean isStones) {
            size++;
            if (isStones) {
                stones |= 1 << furrow;
            } else {
                bare |= 1 << furrow;
            }
        }

        boolean fit(int l, int r) {
            int course = (2 << r) - (1 << l);
            return (stones & ~course) == 0 && (bare & course) == 0;
        }

        /** How many courses fit that have a FURROW in them (ANY: all that fit). */
        int coursesWith(int furrows, int furrow) {
            int fitting = 0;
            for (int l = 0; l < furrows; l++) {
                for (int r = l; r < furrows; r++) {
                    boolean with = furrow == ANY || (furrow >= l && furrow <= r);
                    fitting += with && fit(l, r) ? 1 : 0;
                }
            }
            return fitting;
        }
    }

    /** Numbers drawn one behind another from a seed. */
    private static final class Draws {
        private int drawn;

        int draw(int n) {
            drawn = drawn * 1103515245 + 12345;
            return n > 0 ? (drawn >>> 16) % n : 0;
        }
    }
}
