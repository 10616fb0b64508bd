import java.math.BigInteger;
import java.util.ArrayList;
import java.util.HashMap;
import java.util.List;
import java.util.Map;
import java.util.regex.Matcher;
import java.util.regex.Pattern;

/** The document once more, slowly and by other ways than the class goes. */
final class Plain {
    record House(int n, int a, int b, int conditions) { }

    record Finding(int price, int mark, int comes, List<Integer> on) { }

    record Law(int x, int y, String which, int z) {
        int tenths(int conditions) {
            for (char c : which.toCharArray()) {
                if ((conditions >> (c - 'a') & 1) == 0) {
                    return z;
                }
            }
            return x;
        }
    }

    record Image(List<House> houses, List<Finding> findings) { }

    record Fraction(BigInteger upper, BigInteger lower) implements Comparable<Fraction> {
        static Fraction of(long upper, long lower) {
            return of(BigInteger.valueOf(upper), BigInteger.valueOf(lower));
        }

        static Fraction of(BigInteger upper, BigInteger lower) {
            BigInteger divisor = upper.gcd(lower);
            return new Fraction(upper.divide(divisor), lower.divide(divisor));
        }

        Fraction less(Fraction o) {
            return of(upper.multiply(o.lower).subtract(o.upper.multiply(lower)), lower.multiply(o.lower));
        }

        Fraction size() {
            return new Fraction(upper.abs(), lower);
        }

        @Override
        public int compareTo(Fraction o) {
            return less(o).upper.signum();
        }

        int part(int what) {
            return (what == 0 ? upper : lower).intValueExact();
        }
    }

    private static final int BAD = -1, STATE = -2, FULL = -3, NONE = -9, NO = -1000000;
    private static final Map<List<Integer>, Long> KNOWN_LUCK = new HashMap<>();

    List<House> houses = new ArrayList<>();
    List<Finding> findings = new ArrayList<>();
    List<Law> laws = new ArrayList<>();
    Image[] images = new Image[2];
    StringBuilder text = new StringBuilder();
    int span = 20;
    long trace = 0;

    int house(int n, int a, int b, int conditions) {
        if (n < 1 || n > 12 || a < 0 || a > n || b < 0 || b > n || conditions < 0 || conditions > 63) {
            return BAD;
        }
        if (houses.size() == 12) {
            return FULL;
        }
        houses.add(new House(n, a, b, conditions));
        return houses.size() - 1;
    }

    private boolean noHouse(int i) {
        return i < 0 || i >= houses.size();
    }

    int about(int i, int what) {
        if (noHouse(i) || what < 0 || what > 3) {
            return BAD;
        }
        House h = houses.get(i);
        return List.of(h.n, h.a, h.b, h.conditions).get(what);
    }

    int mend(int i, int a, int b) {
        if (noHouse(i)) {
            return BAD;
        }
        House h = houses.get(i);
        if (a < 0 || a > h.n || b < 0 || b > h.n) {
            return BAD;
        }
        houses.set(i, new House(h.n, a, b, h.conditions));
        return h.a * 100 + h.b;
    }

    private static Fraction more(List<House> some) {
        int n = 0;
        int a = 0;
        int b = 0;
        for (House h : some) {
            n += h.n;
            a += h.a;
            b += h.b;
        }
        return Fraction.of(a, n).less(Fraction.of(b, n));
    }

    private List<House> chosen(long set) {
        List<House> some = new ArrayList<>();
        for (int i = 0; i < houses.size(); i++) {
            if ((set & 1L << i) != 0) {
                some.add(houses.get(i));
            }
        }
        return some;
    }

    int more(int set, int what) {
        List<House> some = chosen(set);
        return what < 0 || what > 1 || some.isEmpty() ? NO : more(some).part(what);
    }

    /** Ways by going through the people one by one. */
    private static long waysFrom(int person, int people, int did, int free, int due) {
        if (free < 0 || free > people - person) {
            return 0;
        }
        if (person == people) {
            return due <= 0 ? 1 : 0;
        }
        List<Integer> key = List.of(person, people, did, free, due);
        Long known = KNOWN_LUCK.get(key);
        if (known == null) {
            known = waysFrom(person + 1, people, did, free, due)
                + waysFrom(person + 1, people, did, free - 1, person < did ? due - 1 : due);
            KNOWN_LUCK.put(key, known);
        }
        return known;
    }

    int luck(int i, int what) {
        if (noHouse(i) || what < 0 || what > 1) {
            return BAD;
        }
        House h = houses.get(i);
        return (int) waysFrom(0, 2 * h.n, h.a + h.b, h.n, what == 0 ? h.a : 0);
    }

    int can(int hundredths, int n) {
        if (hundredths < 0 || hundredths > 100 || n < 1 || n > 99) {
            return BAD;
        }
        for (int k = 0; k <= n; k++) {
            // The share lies from half a hundredth below to less than half a one above.
            if ((2 * hundredths - 1) * n <= 200 * k && 200 * k < (2 * hundredths + 1) * n) {
                return 1;
            }
        }
        return 0;
    }

    private static boolean alike(House g, House h) {
        return g.n == h.n && g.a == h.a && g.b == h.b;
    }

    int same() {
        int found = 0;
        for (int i = 0; i < houses.size(); i++) {
            for (int j = 0; j < i; j++) {
                found += alike(houses.get(i), houses.get(j)) ? 1 : 0;
            }
        }
        return found;
    }

    int without() {
        int found = NONE;
        Fraction most = Fraction.of(-1, 1);
        for (int i = 0; i < houses.size() && houses.size() > 1; i++) {
            List<House> others = new ArrayList<>(houses);
            others.remove(i);
            Fraction far = more(others).less(more(houses)).size();
            if (far.compareTo(most) > 0) {
                most = far;
                found = i;
            }
        }
        return found;
    }

    /** Null, if all houses have it or none. */
    private Fraction gap(long set) {
        List<House> have = chosen(set);
        List<House> not = chosen(~set);
        return have.isEmpty() || not.isEmpty() ? null : more(have).less(more(not));
    }

    private long having(int condition) {
        long set = 0;
        for (int i = 0; i < houses.size(); i++) {
            if ((houses.get(i).conditions & 1 << condition) != 0) {
                set += 1L << i;
            }
        }
        return set;
    }

    int between(int condition, int what) {
        if (condition < 0 || condition > 5 || what < 0 || what > 1) {
            return NO;
        }
        Fraction gap = gap(having(condition));
        return gap == null ? NO : gap.part(what);
    }

    int priced(int condition, int what) {
        if (condition < 0 || condition > 5 || what < 0 || what > 2) {
            return BAD;
        }
        Fraction gap = gap(having(condition));
        if (gap == null) {
            return STATE;
        }
        int found = 0;
        if (what == 2) {
            for (int c = 0; c < 6; c++) {
                Fraction other = gap(having(c));
                found += other != null && other.compareTo(gap) >= 0 ? 1 : 0;
            }
            return found;
        }
        for (long set = 0; set < 1L << houses.size(); set++) {
            if (Long.bitCount(set) == Long.bitCount(having(condition))) {
                found += what == 1 || gap(set).compareTo(gap) >= 0 ? 1 : 0;
            }
        }
        return found;
    }

    int type(long v, int n) {
        if (n < 1 || n > 8) {
            return BAD;
        }
        if (text.length() + n > 300) {
            return FULL;
        }
        for (int i = 8 - n; i < 8; i++) {
            text.append((char) (v << 8 * i >>> 56));
        }
        return text.length();
    }

    int clear() {
        int had = text.length();
        text = new StringBuilder();
        return had;
    }

    private static final Pattern TOKEN = Pattern.compile(" *([a-z]+|[0-9]+|;|[^ ]| *\\z)", Pattern.DOTALL);

    /** What a token is: l, i, e, ; and w for a run, n for a number that may be a tenth, ? for what can't be. */
    private static char sort(String token) {
        if (token.matches("law|if|else|;")) {
            return token.charAt(0);
        }
        if (token.matches("[a-f]+") && token.chars().distinct().count() == token.length()) {
            return 'w';
        }
        return token.matches("[0-9]|10") ? 'n' : '?';
    }

    /** Reads by what may stand ahead: sorts are whole items, or the beginning of one. */
    int laws() {
        List<Law> read = new ArrayList<>();
        List<String> item = new ArrayList<>();
        StringBuilder sorts = new StringBuilder();
        Matcher m = TOKEN.matcher(text);
        while (m.find() && !m.group(1).replace(" ", "").isEmpty()) {
            item.add(m.group(1));
            sorts.append(sort(m.group(1)));
            boolean isWhole = sorts.toString().matches("lnn;|lnniwen;");
            boolean begins = "lnn;".startsWith(sorts.toString()) || "lnniwen;".startsWith(sorts.toString());
            if (!begins || read.size() == 6) {
                return -10 - m.start(1);
            }
            if (isWhole) {
                boolean isFixed = item.size() == 4;
                read.add(new Law(Integer.parseInt(item.get(1)), Integer.parseInt(item.get(2)),
                    isFixed ? "" : item.get(4), isFixed ? 0 : Integer.parseInt(item.get(6))));
                item.clear();
                sorts.setLength(0);
            }
        }
        if (!item.isEmpty()) {
            return -10 - text.length();
        }
        laws = read;
        clear();
        return laws.size();
    }

    private boolean noLaw(int law) {
        return law < 0 || law >= laws.size();
    }

    int tenths(int law, int conditions, int what) {
        if (noLaw(law) || conditions < 0 || conditions > 63 || what < 0 || what > 1) {
            return BAD;
        }
        return what == 0 ? laws.get(law).tenths(conditions) : laws.get(law).y;
    }

    int misfit(int law) {
        if (noLaw(law)) {
            return BAD;
        }
        Law l = laws.get(law);
        int sum = 0;
        for (House h : houses) {
            sum += Math.abs(10 * h.a - l.tenths(h.conditions) * h.n) + Math.abs(10 * h.b - l.y * h.n);
        }
        return sum;
    }

    int best(int what) {
        if (what < 0 || what > 3) {
            return BAD;
        }
        int best = NONE;
        for (int law = laws.size() - 1; law >= 0; law--) {
            best = best == NONE || misfit(law) <= misfit(best) ? law : best;
        }
        int may = 0;
        for (int law = 0; law < laws.size(); law++) {
            may += misfit(law) <= misfit(best) + span ? 1 << law : 0;
        }
        int next = NONE;
        int heap = NONE;
        for (int conditions = 63; conditions >= 0 && may != 0; conditions--) {
            Map<Integer, Integer> heaps = new HashMap<>();
            for (int law = 0; law < laws.size(); law++) {
                if ((may & 1 << law) != 0) {
                    heaps.merge(laws.get(law).tenths(conditions), 1, Integer::sum);
                }
            }
            int greatest = heaps.values().stream().mapToInt(i -> i).max().orElseThrow();
            if (heap == NONE || greatest <= heap) {
                heap = greatest;
                next = conditions;
            }
        }
        return List.of(best, may, next, heap).get(what);
    }

    int span(int v) {
        if (v < 0 || v > 999) {
            return BAD;
        }
        int before = span;
        span = v;
        return before;
    }

    /** Rows by how many more, person by person. */
    private static BigInteger rows(int x, int y, int n, int d) {
        Map<Integer, BigInteger> byDistance = new HashMap<>(Map.of(0, BigInteger.ONE));
        for (int person = 0; person < 2 * n; person++) {
            int tenths = person < n ? x : y;
            int step = person < n ? 1 : -1;
            Map<Integer, BigInteger> after = new HashMap<>();
            byDistance.forEach((distance, rows) -> {
                after.merge(distance + step, rows.multiply(BigInteger.valueOf(tenths)), BigInteger::add);
                after.merge(distance, rows.multiply(BigInteger.valueOf(10 - tenths)), BigInteger::add);
            });
            byDistance = after;
        }
        BigInteger sum = BigInteger.ZERO;
        for (Map.Entry<Integer, BigInteger> e : byDistance.entrySet()) {
            sum = e.getKey() >= d ? sum.add(e.getValue()) : sum;
        }
        return sum;
    }

    private static boolean badTenths(int x, int y, int d) {
        return x < 0 || x > 10 || y < 0 || y > 10 || d < -9 || d > 9;
    }

    long sure(int x, int y, int n, int d) {
        return badTenths(x, y, d) || n < 1 || n > 9 ? BAD : rows(x, y, n, d).longValueExact();
    }

    int need(int x, int y, int d, int h) {
        if (badTenths(x, y, d) || h < 1 || h > 100) {
            return BAD;
        }
        for (int n = 1; n < 10; n++) {
            BigInteger due = BigInteger.TEN.pow(2 * n).multiply(BigInteger.valueOf(h));
            if (rows(x, y, n, d).multiply(BigInteger.valueOf(100)).compareTo(due) >= 0) {
                return n;
            }
        }
        return NONE;
    }

    int finding(int price, int mark, int comes) {
        if (price < 0 || price > 100 || mark < 0 || mark > 100 || comes < 0 || comes > 1) {
            return BAD;
        }
        if (findings.size() == 16) {
            return FULL;
        }
        findings.add(new Finding(price, mark, comes, List.of()));
        return findings.size() - 1;
    }

    int held(int which, int what) {
        if (which < 0 || which > 1 || what < 0 || what > 3) {
            return BAD;
        }
        int off = 0;
        int right = 0;
        for (Finding f : findings) {
            int told = which == 0 ? f.price : f.mark;
            off += f.comes == 1 ? (100 - told) * (100 - told) : told * told;
            for (Finding g : findings) {
                int other = which == 0 ? g.price : g.mark;
                if (f.comes == 1 && g.comes == 0) {
                    right += told > other ? 2 : told == other ? 1 : 0;
                }
            }
        }
        int cut = 0;
        int most = 0;
        for (int c = 101; c >= 0; c--) {
            int at = c;
            int good = (int) findings.stream()
                .filter(f -> (which == 0 ? f.price : f.mark) >= at == (f.comes == 1)).count();
            if (good >= most) {
                most = good;
                cut = c;
            }
        }
        return List.of(off, right, cut, most).get(what);
    }

    int stands(int i, int on) {
        if (i < 0 || i >= findings.size() || on < 0 || on >= i || findings.get(i).on.contains(on)) {
            return BAD;
        }
        Finding f = findings.get(i);
        if (f.on.size() == 3) {
            return FULL;
        }
        List<Integer> more = new ArrayList<>(f.on);
        more.add(on);
        findings.set(i, new Finding(f.price, f.mark, f.comes, more));
        return more.size();
    }

    int falls(int set, int what) {
        if (what < 0 || what > 1) {
            return BAD;
        }
        // In which round each falls: a finding stands on earlier ones alone.
        int[] round = new int[findings.size()];
        int down = 0;
        int last = 0;
        for (int i = 0; i < round.length; i++) {
            round[i] = (set & 1 << i) != 0 ? 0 : 99;
            for (int on : findings.get(i).on) {
                round[i] = Math.min(round[i], round[on] + 1);
            }
            if (round[i] < 99) {
                down |= 1 << i;
                last = Math.max(last, round[i]);
            }
        }
        return what == 0 ? down : last;
    }

    int bears() {
        int found = NONE;
        int most = 0;
        for (int i = 0; i < findings.size(); i++) {
            int fallen = Integer.bitCount(falls(1 << i, 0));
            if (fallen > most) {
                most = fallen;
                found = i;
            }
        }
        return found;
    }

    int weight(int kind, int i) {
        if (kind < 0 || kind > 6 || noHouse(i)) {
            return BAD;
        }
        House h = houses.get(i);
        trace += List.of(1, 11, 101, 1101, 10101, 100001, 1000001).get(kind);
        int twins = (int) houses.stream().filter(g -> alike(g, h)).count();
        return List.of(h.n, h.n / 2, 2 * h.n, 2 * h.n + h.b, 2 * h.n + h.a, h.n < 3 ? 0 : h.n - 3, h.n * twins)
            .get(kind);
    }

    int keep(int image) {
        if (image < 0 || image > 1) {
            return BAD;
        }
        images[image] = new Image(List.copyOf(houses), List.copyOf(findings));
        return houses.size() + findings.size();
    }

    int back(int image) {
        if (image < 0 || image > 1) {
            return BAD;
        }
        if (images[image] == null) {
            return STATE;
        }
        houses = new ArrayList<>(images[image].houses);
        findings = new ArrayList<>(images[image].findings);
        return houses.size() + findings.size();
    }

    int count(int what) {
        if (what < 0 || what > 5) {
            return BAD;
        }
        int people = houses.stream().mapToInt(h -> h.n + h.n).sum();
        int came = findings.stream().mapToInt(f -> f.comes).sum();
        return List.of(houses.size(), people, laws.size(), findings.size(), came, text.length()).get(what);
    }

    long trace() {
        return trace;
    }
}
