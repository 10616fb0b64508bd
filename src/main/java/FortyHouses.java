/**
 * One finding done again by many houses, and what may be learned from it.
 * Every row is made with the object and used again, so that no call makes an object.
 */
public final class FortyHouses {
    public static final int BAD = -1, STATE = -2, FULL = -3, NONE = -9;
    public static final int NO = -1000000;

    private static final int ALL_CONDITIONS = 63;
    private static final int CONDITION_COUNT = 6;
    private static final int MOST_TRIED = 9;
    private static final int TOP_SPAN = 999;

    private static final int HOUSE_KIND = 0;
    private static final int FIRST_KIND = 1;
    private static final int CLOSE_KIND = 2;
    private static final int SCEPTIC_KIND = 3;
    private static final int BELIEVING_KIND = 4;
    private static final int SMALL_KIND = 5;
    private static final int FAULTY_KIND = 6;

    private final Books now;
    private final Books firstImage;
    private final Books secondImage;
    private final Reader text;
    private Laws ruling;
    /** Where a text is read to, so that a fault leaves the ruling laws as they are. */
    private Laws spare;
    /** SPAN. */
    private int slack;
    /** THE TRACE. */
    private long asked;

    public FortyHouses() {
        now = new Books();
        firstImage = new Books();
        secondImage = new Books();
        text = new Reader();
        ruling = new Laws();
        spare = new Laws();
        slack = 20;
        asked = 0;
    }

    // ---- houses

    public int house(int n, int a, int b, int conditions) {
        if (!within(n, 1, Houses.MOST_PEOPLE) || !within(a, 0, n) || !within(b, 0, n)
                || !within(conditions, 0, ALL_CONDITIONS)) {
            return BAD;
        }
        return now.houses.isFull() ? FULL : now.houses.add(n, a, b, conditions);
    }

    public int about(int i, int what) {
        Houses houses = now.houses;
        if (!houses.has(i)) {
            return BAD;
        }
        switch (what) {
            case 0:
                return houses.people[i];
            case 1:
                return houses.didWith[i];
            case 2:
                return houses.didWithout[i];
            case 3:
                return houses.conditions[i];
            default:
                return BAD;
        }
    }

    public int mend(int i, int a, int b) {
        Houses houses = now.houses;
        if (!houses.has(i) || !within(a, 0, houses.people[i]) || !within(b, 0, houses.people[i])) {
            return BAD;
        }
        int before = 100 * houses.didWith[i] + houses.didWithout[i];
        houses.didWith[i] = a;
        houses.didWithout[i] = b;
        return before;
    }

    public int more(int set, int what) {
        int people = now.houses.peopleOf(set);
        if (!within(what, 0, 1) || people == 0) {
            return NO;
        }
        return inLeastTerms(now.houses.excessOf(set), people, what);
    }

    public int luck(int i, int what) {
        if (!now.houses.has(i) || !within(what, 0, 1)) {
            return BAD;
        }
        return what == 0 ? now.houses.waysOfLuck(i) : now.houses.allWaysOfLuck(i);
    }

    public int can(int hundredths, int n) {
        if (!within(hundredths, 0, 100) || !within(n, 1, 99)) {
            return BAD;
        }
        for (int k = 0; k <= n; k++) {
            if ((200 * k + n) / (2 * n) == hundredths) {
                return 1;
            }
        }
        return 0;
    }

    public int same() {
        return now.houses.alikePairs();
    }

    public int without() {
        return now.houses.size < 2 ? NONE : now.houses.leftOut();
    }

    // ---- conditions

    public int between(int condition, int what) {
        if (!within(condition, 0, CONDITION_COUNT - 1) || !within(what, 0, 1) || !now.houses.isParted(condition)) {
            return NO;
        }
        int having = now.houses.having(condition);
        return inLeastTerms(now.houses.gapUpper(having), now.houses.gapLower(having), what);
    }

    public int priced(int condition, int what) {
        if (!within(condition, 0, CONDITION_COUNT - 1) || !within(what, 0, 2)) {
            return BAD;
        }
        if (!now.houses.isParted(condition)) {
            return STATE;
        }
        int having = now.houses.having(condition);
        switch (what) {
            case 0:
                return now.houses.setsWithGapOf(having);
            case 1:
                return (int) choose(now.houses.size, Integer.bitCount(having));
            default:
                return now.houses.conditionsWithGapOf(having);
        }
    }

    // ---- laws

    public int type(long v, int n) {
        if (!within(n, 1, 8)) {
            return BAD;
        }
        return text.length + n > Reader.MOST ? FULL : text.append(v, n);
    }

    public int clear() {
        int had = text.length;
        text.length = 0;
        return had;
    }

    public int laws() {
        int fault = text.readInto(spare);
        if (fault != Reader.NO_FAULT) {
            return -10 - fault;
        }
        Laws old = ruling;
        ruling = spare;
        spare = old;
        text.length = 0;
        return ruling.size;
    }

    public int tenths(int law, int conditions, int what) {
        if (!ruling.has(law) || !within(conditions, 0, ALL_CONDITIONS) || !within(what, 0, 1)) {
            return BAD;
        }
        return what == 0 ? ruling.tenthsWith(law, conditions) : ruling.tenthsWithout[law];
    }

    public int misfit(int law) {
        return ruling.has(law) ? ruling.misfitOf(law, now.houses) : BAD;
    }

    public int best(int what) {
        if (!within(what, 0, 3)) {
            return BAD;
        }
        if (ruling.size == 0) {
            return what == 1 ? 0 : NONE;
        }
        if (what == 0) {
            return ruling.closestTo(now.houses);
        }
        int possible = ruling.possible(now.houses, slack);
        if (what == 1) {
            return possible;
        }
        int next = ruling.nextToTry(possible);
        return what == 2 ? next : ruling.greatestHeap(possible, next);
    }

    public int span(int v) {
        if (!within(v, 0, TOP_SPAN)) {
            return BAD;
        }
        int before = slack;
        slack = v;
        return before;
    }

    // ---- how many

    public long sure(int x, int y, int n, int d) {
        return areTenths(x, y) && within(n, 1, MOST_TRIED) && isDistance(d) ? sureRows(x, y, n, d) : BAD;
    }

    public int need(int x, int y, int d, int h) {
        if (!areTenths(x, y) || !isDistance(d) || !within(h, 1, 100)) {
            return BAD;
        }
        for (int n = 1; n <= MOST_TRIED; n++) {
            // A hundredth of 10 to the 2 n: the sure rows times 100 would be too much for a long.
            if (sureRows(x, y, n, d) >= h * power(10, 2 * n - 2)) {
                return n;
            }
        }
        return NONE;
    }

    // ---- findings

    public int finding(int price, int mark, int comes) {
        if (!within(price, 0, 100) || !within(mark, 0, 100) || !within(comes, 0, 1)) {
            return BAD;
        }
        return now.findings.isFull() ? FULL : now.findings.add(price, mark, comes);
    }

    public int held(int which, int what) {
        if (!within(which, 0, 1)) {
            return BAD;
        }
        Findings findings = now.findings;
        int[] told = which == 0 ? findings.prices : findings.marks;
        switch (what) {
            case 0:
                return findings.squaresOff(told);
            case 1:
                return findings.pairsRight(told);
            case 2:
                return findings.cut(told);
            case 3:
                return findings.rightBy(told, findings.cut(told));
            default:
                return BAD;
        }
    }

    public int stands(int i, int on) {
        Findings findings = now.findings;
        if (!findings.has(i) || !within(on, 0, i - 1) || findings.isOn(i, on)) {
            return BAD;
        }
        return findings.isLaden(i) ? FULL : findings.setOn(i, on);
    }

    public int falls(int set, int what) {
        switch (what) {
            case 0:
                return now.findings.down(set);
            case 1:
                return now.findings.rounds(set);
            default:
                return BAD;
        }
    }

    public int bears() {
        return now.findings.size == 0 ? NONE : now.findings.mostBearing();
    }

    // ---- kinds, images

    public int weight(int kind, int i) {
        if (!now.houses.has(i)) {
            return BAD;
        }
        switch (kind) {
            case HOUSE_KIND:
                return houseWeight(i);
            case FIRST_KIND:
                return firstWeight(i);
            case CLOSE_KIND:
                return closeWeight(i);
            case SCEPTIC_KIND:
                return scepticWeight(i);
            case BELIEVING_KIND:
                return believingWeight(i);
            case SMALL_KIND:
                return smallWeight(i);
            case FAULTY_KIND:
                return faultyWeight(i);
            default:
                return BAD;
        }
    }

    public int keep(int image) {
        if (!within(image, 0, 1)) {
            return BAD;
        }
        Books kept = imageOf(image);
        kept.copyFrom(now);
        kept.isKept = true;
        return kept.entries();
    }

    public int back(int image) {
        if (!within(image, 0, 1)) {
            return BAD;
        }
        Books kept = imageOf(image);
        if (!kept.isKept) {
            return STATE;
        }
        now.copyFrom(kept);
        return now.entries();
    }

    public int count(int what) {
        switch (what) {
            case 0:
                return now.houses.size;
            case 1:
                return 2 * now.houses.peopleOf(now.houses.all());
            case 2:
                return ruling.size;
            case 3:
                return now.findings.size;
            case 4:
                return now.findings.cameCount();
            case 5:
                return text.length;
            default:
                return BAD;
        }
    }

    public long trace() {
        return asked;
    }

    // ---- the bodies of the kinds: each asks the one of the kind above

    private int houseWeight(int i) {
        asked += 1;
        return now.houses.people[i];
    }

    private int firstWeight(int i) {
        asked += 10;
        return houseWeight(i) / 2;
    }

    private int closeWeight(int i) {
        asked += 100;
        return 2 * houseWeight(i);
    }

    private int scepticWeight(int i) {
        asked += 1000;
        return closeWeight(i) + now.houses.didWithout[i];
    }

    private int believingWeight(int i) {
        asked += 10000;
        return closeWeight(i) + now.houses.didWith[i];
    }

    private int smallWeight(int i) {
        asked += 100000;
        return Math.max(0, houseWeight(i) - 3);
    }

    private int faultyWeight(int i) {
        asked += 1000000;
        return houseWeight(i) * now.houses.alikeTo(i);
    }

    private Books imageOf(int image) {
        return image == 0 ? firstImage : secondImage;
    }

    // ---- numbers

    private static boolean within(int v, int low, int high) {
        return v >= low && v <= high;
    }

    private static boolean areTenths(int x, int y) {
        return within(x, 0, Laws.TOP_TENTHS) && within(y, 0, Laws.TOP_TENTHS);
    }

    private static boolean isDistance(int d) {
        return within(d, -MOST_TRIED, MOST_TRIED);
    }

    /** The upper (what = 0) or lower number of a fraction whose lower number is above 0. */
    private static int inLeastTerms(int upper, int lower, int what) {
        int divisor = greatestDivisor(Math.abs(upper), lower);
        if (divisor == 0) {
            return NO;
        }
        return what == 0 ? upper / divisor : lower / divisor;
    }

    private static int greatestDivisor(int a, int b) {
        int larger = a;
        int smaller = b;
        // Euclid needs fewer than 50 steps for any two ints.
        for (int step = 0; step < 64 && smaller != 0; step++) {
            int rest = larger % smaller;
            larger = smaller;
            smaller = rest;
        }
        return larger;
    }

    private static long choose(int n, int k) {
        if (k < 0 || k > n) {
            return 0;
        }
        long ways = 1;
        for (int i = 1; i <= k; i++) {
            ways = ways * (n - k + i) / i;
        }
        return ways;
    }

    private static long power(int base, int exponent) {
        long result = 1;
        for (int i = 0; i < exponent; i++) {
            result *= base;
        }
        return result;
    }

    /** Of 10 to the n rows those in which just k of n people, each by so many tenths, do it. */
    private static long rowsWith(int tenths, int n, int k) {
        return choose(n, k) * power(tenths, k) * power(10 - tenths, n - k);
    }

    private static long sureRows(int x, int y, int n, int d) {
        long sure = 0;
        long rowsBelow = 0;
        int b = 0;
        for (int a = 0; a <= n; a++) {
            for (; b <= n && b <= a - d; b++) {
                rowsBelow += rowsWith(y, n, b);
            }
            sure += rowsWith(x, n, a) * rowsBelow;
        }
        return sure;
    }

    /** What an image keeps. */
    private static final class Books {
        final Houses houses = new Houses();
        final Findings findings = new Findings();
        boolean isKept = false;

        int entries() {
            return houses.size + findings.size;
        }

        void copyFrom(Books other) {
            houses.copyFrom(other.houses);
            findings.copyFrom(other.findings);
        }
    }

    /** Houses by number; a set of them is told by bits. */
    private static final class Houses {
        static final int MOST = 12;
        static final int MOST_PEOPLE = 12;

        final int[] people = new int[MOST];
        final int[] didWith = new int[MOST];
        final int[] didWithout = new int[MOST];
        final int[] conditions = new int[MOST];
        int size = 0;

        void copyFrom(Houses other) {
            System.arraycopy(other.people, 0, people, 0, MOST);
            System.arraycopy(other.didWith, 0, didWith, 0, MOST);
            System.arraycopy(other.didWithout, 0, didWithout, 0, MOST);
            System.arraycopy(other.conditions, 0, conditions, 0, MOST);
            size = other.size;
        }

        boolean isFull() {
            return size >= MOST;
        }

        boolean has(int i) {
            return i >= 0 && i < size;
        }

        int add(int n, int a, int b, int had) {
            people[size] = n;
            didWith[size] = a;
            didWithout[size] = b;
            conditions[size] = had;
            size++;
            return size - 1;
        }

        int all() {
            return (1 << size) - 1;
        }

        int having(int condition) {
            int set = 0;
            for (int i = 0; i < size; i++) {
                set |= (conditions[i] >> condition & 1) << i;
            }
            return set;
        }

        /** Whether some houses have the condition, and not all. */
        boolean isParted(int condition) {
            int set = having(condition);
            return set != 0 && set != all();
        }

        int peopleOf(int set) {
            int sum = 0;
            for (int i = 0; i < size; i++) {
                if ((set >> i & 1) == 1) {
                    sum += people[i];
                }
            }
            return sum;
        }

        /** How many more did it with the thing than without it. */
        int excessOf(int set) {
            int sum = 0;
            for (int i = 0; i < size; i++) {
                if ((set >> i & 1) == 1) {
                    sum += didWith[i] - didWithout[i];
                }
            }
            return sum;
        }

        boolean areAlike(int i, int j) {
            return people[i] == people[j] && didWith[i] == didWith[j] && didWithout[i] == didWithout[j];
        }

        int alikeTo(int i) {
            int found = 0;
            for (int j = 0; j < size; j++) {
                found += areAlike(i, j) ? 1 : 0;
            }
            return found;
        }

        int alikePairs() {
            int found = 0;
            for (int i = 0; i < size; i++) {
                // Each pair is seen from both of its houses, and each house is like itself.
                found += alikeTo(i) - 1;
            }
            return found / 2;
        }

        int allWaysOfLuck(int i) {
            return (int) choose(2 * people[i], people[i]);
        }

        int waysOfLuck(int i) {
            int n = people[i];
            int did = didWith[i] + didWithout[i];
            long ways = 0;
            for (int k = didWith[i]; k <= n; k++) {
                ways += choose(did, k) * choose(2 * n - did, n - k);
            }
            return (int) ways;
        }

        /** The first house without which the others differ most from all; there are two at least. */
        int leftOut() {
            int allPeople = peopleOf(all());
            int allExcess = excessOf(all());
            int found = 0;
            long farthest = -1;
            long farthestPeople = 1;
            for (int i = 0; i < size; i++) {
                int others = all() & ~(1 << i);
                long othersPeople = peopleOf(others);
                // The distance by its lower number without allPeople, which is in all of them.
                long far = Math.abs(excessOf(others) * (long) allPeople - allExcess * othersPeople);
                if (far * farthestPeople > farthest * othersPeople) {
                    found = i;
                    farthest = far;
                    farthestPeople = othersPeople;
                }
            }
            return found;
        }

        /*
         * The gap is MORE of a set less MORE of the other houses. With e by p for the set and E by P
         * for all, e by p less E - e by P - p is e P - E p by p (P - p); it is not in least terms.
         */

        int gapUpper(int set) {
            return excessOf(set) * peopleOf(all()) - excessOf(all()) * peopleOf(set);
        }

        int gapLower(int set) {
            return peopleOf(set) * (peopleOf(all()) - peopleOf(set));
        }

        /** How many sets of as many houses have a gap that is the told set's at least. */
        int setsWithGapOf(int told) {
            int among = Integer.bitCount(told);
            long upper = gapUpper(told);
            long lower = gapLower(told);
            int every = all();
            int allPeople = peopleOf(every);
            int allExcess = excessOf(every);
            int found = 0;
            for (int set = 0; set <= every; set++) {
                if (Integer.bitCount(set) == among) {
                    // The gap's two numbers, with the sums over all houses made but once.
                    int setPeople = peopleOf(set);
                    int setUpper = excessOf(set) * allPeople - allExcess * setPeople;
                    int setLower = setPeople * (allPeople - setPeople);
                    found += setUpper * lower >= upper * setLower ? 1 : 0;
                }
            }
            return found;
        }

        /** How many conditions that part the houses have a gap that is the told set's at least. */
        int conditionsWithGapOf(int told) {
            long upper = gapUpper(told);
            long lower = gapLower(told);
            int found = 0;
            for (int condition = 0; condition < CONDITION_COUNT; condition++) {
                int set = having(condition);
                if (isParted(condition) && gapUpper(set) * lower >= upper * gapLower(set)) {
                    found++;
                }
            }
            return found;
        }
    }

    /** Findings by number; a set of them is told by bits. */
    private static final class Findings {
        static final int MOST = 16;
        static final int MOST_GROUNDS = 3;
        static final int TOP_CUT = 101;

        final int[] prices = new int[MOST];
        final int[] marks = new int[MOST];
        final int[] came = new int[MOST];
        final int[] grounds = new int[MOST];
        int size = 0;

        void copyFrom(Findings other) {
            System.arraycopy(other.prices, 0, prices, 0, MOST);
            System.arraycopy(other.marks, 0, marks, 0, MOST);
            System.arraycopy(other.came, 0, came, 0, MOST);
            System.arraycopy(other.grounds, 0, grounds, 0, MOST);
            size = other.size;
        }

        boolean isFull() {
            return size >= MOST;
        }

        boolean has(int i) {
            return i >= 0 && i < size;
        }

        int add(int price, int mark, int comes) {
            prices[size] = price;
            marks[size] = mark;
            came[size] = comes;
            // An image that went back may have left grounds of a later finding here.
            grounds[size] = 0;
            size++;
            return size - 1;
        }

        int cameCount() {
            int found = 0;
            for (int i = 0; i < size; i++) {
                found += came[i];
            }
            return found;
        }

        int squaresOff(int[] told) {
            int sum = 0;
            for (int i = 0; i < size; i++) {
                int off = told[i] - 100 * came[i];
                sum += off * off;
            }
            return sum;
        }

        int pairsRight(int[] told) {
            int points = 0;
            for (int i = 0; i < size; i++) {
                for (int j = 0; j < size; j++) {
                    if (came[i] == 1 && came[j] == 0) {
                        points += 1 + Integer.compare(told[i], told[j]);
                    }
                }
            }
            return points;
        }

        int rightBy(int[] told, int cut) {
            int right = 0;
            for (int i = 0; i < size; i++) {
                int said = told[i] >= cut ? 1 : 0;
                right += said == came[i] ? 1 : 0;
            }
            return right;
        }

        int cut(int[] told) {
            int found = 0;
            int most = -1;
            for (int cut = 0; cut <= TOP_CUT; cut++) {
                int right = rightBy(told, cut);
                if (right > most) {
                    found = cut;
                    most = right;
                }
            }
            return found;
        }

        boolean isOn(int i, int ground) {
            return (grounds[i] >> ground & 1) == 1;
        }

        boolean isLaden(int i) {
            return Integer.bitCount(grounds[i]) >= MOST_GROUNDS;
        }

        int setOn(int i, int ground) {
            grounds[i] |= 1 << ground;
            return Integer.bitCount(grounds[i]);
        }

        int there(int set) {
            return set & (1 << size) - 1;
        }

        /** The set, and all that stand on one of it. */
        int afterRound(int set) {
            int down = set;
            for (int i = 0; i < size; i++) {
                if ((grounds[i] & set) != 0) {
                    down |= 1 << i;
                }
            }
            return down;
        }

        int down(int set) {
            int down = there(set);
            // No chain is longer than the findings, and a round more changes nothing.
            for (int round = 0; round < size; round++) {
                down = afterRound(down);
            }
            return down;
        }

        int rounds(int set) {
            int down = there(set);
            for (int round = 0; round < size; round++) {
                int after = afterRound(down);
                if (after == down) {
                    return round;
                }
                down = after;
            }
            return size;
        }

        int mostBearing() {
            int found = 0;
            int most = 0;
            for (int i = 0; i < size; i++) {
                int fallen = Integer.bitCount(down(1 << i));
                if (fallen > most) {
                    found = i;
                    most = fallen;
                }
            }
            return found;
        }
    }

    /** Laws by number; a set of them is told by bits. The law at size is the one that is being read. */
    private static final class Laws {
        static final int MOST = 6;
        static final int TOP_TENTHS = 10;

        static final int LAW_DUE = 0;
        static final int WITH_DUE = 1;
        static final int WITHOUT_DUE = 2;
        static final int IF_OR_END_DUE = 3;
        static final int CONDITIONS_DUE = 4;
        static final int ELSE_DUE = 5;
        static final int OTHERWISE_DUE = 6;
        static final int END_DUE = 7;
        static final int NOTHING_DUE = -1;

        final int[] tenthsIf = new int[MOST];
        final int[] tenthsWithout = new int[MOST];
        final int[] conditions = new int[MOST];
        final int[] tenthsElse = new int[MOST];
        int size = 0;

        boolean has(int law) {
            return law >= 0 && law < size;
        }

        /** Takes a token where something is due: what is due then, NOTHING_DUE if it can't stand there. */
        int take(int due, int token, int value) {
            if (size >= MOST) {
                return NOTHING_DUE;
            }
            switch (due) {
                case LAW_DUE:
                    return token == Reader.LAW ? WITH_DUE : NOTHING_DUE;
                case WITH_DUE:
                case WITHOUT_DUE:
                case OTHERWISE_DUE:
                    return token == Reader.NUMBER && value <= TOP_TENTHS ? takeTenths(due, value) : NOTHING_DUE;
                case CONDITIONS_DUE:
                    return token == Reader.RUN ? takeConditions(value) : NOTHING_DUE;
                case ELSE_DUE:
                    return token == Reader.ELSE ? OTHERWISE_DUE : NOTHING_DUE;
                case IF_OR_END_DUE:
                    return token == Reader.IF ? CONDITIONS_DUE : takeEnd(token);
                default:
                    return takeEnd(token);
            }
        }

        int takeTenths(int due, int value) {
            if (due == WITHOUT_DUE) {
                tenthsWithout[size] = value;
                return IF_OR_END_DUE;
            }
            if (due == OTHERWISE_DUE) {
                tenthsElse[size] = value;
                return END_DUE;
            }
            // A law without conditions is one whose conditions, none, every house has.
            tenthsIf[size] = value;
            conditions[size] = 0;
            return WITHOUT_DUE;
        }

        int takeConditions(int value) {
            conditions[size] = value;
            return ELSE_DUE;
        }

        int takeEnd(int token) {
            if (token != Reader.END_OF_ITEM) {
                return NOTHING_DUE;
            }
            size++;
            return LAW_DUE;
        }

        int tenthsWith(int law, int had) {
            return (had & conditions[law]) == conditions[law] ? tenthsIf[law] : tenthsElse[law];
        }

        int misfitOf(int law, Houses houses) {
            int sum = 0;
            for (int i = 0; i < houses.size; i++) {
                int n = houses.people[i];
                sum += Math.abs(10 * houses.didWith[i] - tenthsWith(law, houses.conditions[i]) * n);
                sum += Math.abs(10 * houses.didWithout[i] - tenthsWithout[law] * n);
            }
            return sum;
        }

        /** The first law with the least misfit; there is one at least. */
        int closestTo(Houses houses) {
            int found = 0;
            int least = misfitOf(0, houses);
            for (int law = 1; law < size; law++) {
                int misfit = misfitOf(law, houses);
                if (misfit < least) {
                    found = law;
                    least = misfit;
                }
            }
            return found;
        }

        int possible(Houses houses, int slack) {
            int limit = misfitOf(closestTo(houses), houses) + slack;
            int set = 0;
            for (int law = 0; law < size; law++) {
                if (misfitOf(law, houses) <= limit) {
                    set |= 1 << law;
                }
            }
            return set;
        }

        int nextToTry(int set) {
            int found = 0;
            int least = MOST + 1;
            for (int had = 0; had <= ALL_CONDITIONS; had++) {
                int heap = greatestHeap(set, had);
                if (heap < least) {
                    found = had;
                    least = heap;
                }
            }
            return found;
        }

        int greatestHeap(int set, int had) {
            int greatest = 0;
            for (int tenths = 0; tenths <= TOP_TENTHS; tenths++) {
                greatest = Math.max(greatest, heapOf(set, had, tenths));
            }
            return greatest;
        }

        int heapOf(int set, int had, int tenths) {
            int found = 0;
            for (int law = 0; law < size; law++) {
                if ((set >> law & 1) == 1 && tenthsWith(law, had) == tenths) {
                    found++;
                }
            }
            return found;
        }
    }

    /** The text, and the token at which its reading is. */
    private static final class Reader {
        static final int MOST = 300;
        static final int NO_FAULT = -1;

        static final int WRONG = 0;
        static final int END_OF_TEXT = 1;
        static final int END_OF_ITEM = 2;
        static final int NUMBER = 3;
        static final int LAW = 4;
        static final int IF = 5;
        static final int ELSE = 6;
        static final int RUN = 7;

        final byte[] bytes = new byte[MOST];
        int length = 0;
        int token = WRONG;
        int value = 0;
        int start = 0;
        int end = 0;

        int append(long v, int n) {
            for (int i = n - 1; i >= 0; i--) {
                bytes[length] = (byte) (v >> 8 * i);
                length++;
            }
            return length;
        }

        /** Reads the whole text: FAULT, or NO_FAULT. */
        int readInto(Laws laws) {
            laws.size = 0;
            end = 0;
            int due = Laws.LAW_DUE;
            // A token has a byte at least, so that this is enough for all of them and the text's end.
            for (int i = 0; i <= MOST; i++) {
                readToken();
                if (token == END_OF_TEXT) {
                    return due == Laws.LAW_DUE ? NO_FAULT : length;
                }
                due = laws.take(due, token, value);
                if (due == Laws.NOTHING_DUE) {
                    return start;
                }
            }
            return length;
        }

        void readToken() {
            start = end;
            while (start < length && bytes[start] == ' ') {
                start++;
            }
            end = start;
            value = 0;
            if (start >= length) {
                token = END_OF_TEXT;
            } else if (isLetter(start)) {
                readWord();
            } else if (isDigit(start)) {
                readNumber();
            } else {
                token = bytes[start] == ';' ? END_OF_ITEM : WRONG;
                end++;
            }
        }

        boolean isLetter(int place) {
            return bytes[place] >= 'a' && bytes[place] <= 'z';
        }

        boolean isDigit(int place) {
            return bytes[place] >= '0' && bytes[place] <= '9';
        }

        void readWord() {
            while (end < length && isLetter(end)) {
                end++;
            }
            if (isWord("law")) {
                token = LAW;
            } else if (isWord("if")) {
                token = IF;
            } else if (isWord("else")) {
                token = ELSE;
            } else {
                readRun();
            }
        }

        boolean isWord(String word) {
            if (end - start != word.length()) {
                return false;
            }
            for (int i = 0; i < word.length(); i++) {
                if (bytes[start + i] != word.charAt(i)) {
                    return false;
                }
            }
            return true;
        }

        void readRun() {
            token = RUN;
            for (int place = start; place < end; place++) {
                int condition = bytes[place] - 'a';
                if (condition >= CONDITION_COUNT || (value >> condition & 1) == 1) {
                    token = WRONG;
                    return;
                }
                value |= 1 << condition;
            }
        }

        void readNumber() {
            while (end < length && isDigit(end)) {
                value = Math.min(100, 10 * value + bytes[end] - '0');
                end++;
            }
            boolean hasZeroAhead = bytes[start] == '0' && end - start > 1;
            token = hasZeroAhead || value > 99 ? WRONG : NUMBER;
        }
    }
}
