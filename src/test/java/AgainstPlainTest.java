import java.util.Random;

/** Long runs of calls, right and wrong ones, on the class and on the slow model, held against one another. */
public final class AgainstPlainTest {
    private static final int RUNS = 3000;
    private static final int CALLS = 512;
    private static final int[] STRANGE = {Integer.MIN_VALUE, Integer.MIN_VALUE + 1, -1000, -64, -33, -32, -31, -1,
        0, 1, 31, 32, 33, 63, 64, 65, 1000, 1 << 16, Integer.MAX_VALUE - 1, Integer.MAX_VALUE};
    private static final Check CHECK = new Check();

    private final Random random;
    private final FortyHouses got = new FortyHouses();
    private final Plain want = new Plain();
    private final int wrongness;

    private AgainstPlainTest(long seed) {
        random = new Random(seed);
        // Runs differ in how often an argument is wrong, so that some come far.
        wrongness = 10 << random.nextInt(5);
    }

    public static void main(String[] args) {
        for (int run = 0; run < RUNS && !CHECK.hasWrong(); run++) {
            AgainstPlainTest test = new AgainstPlainTest(run);
            for (int call = 0; call < CALLS && !CHECK.hasWrong(); call++) {
                test.callOne("run " + run + ", call " + call + ": ");
            }
        }
        allOfSomeCalls();
        CHECK.end();
    }

    /** Calls whose arguments are few enough to go through all. */
    private static void allOfSomeCalls() {
        Plain want = new Plain();
        for (int n = -1; n <= 100; n++) {
            FortyHouses got = new FortyHouses();
            for (int hundredths = -1; hundredths <= 101; hundredths++) {
                CHECK.due("can(" + hundredths + ", " + n + ")", got.can(hundredths, n), want.can(hundredths, n));
            }
        }
        for (int x = 0; x <= 10; x++) {
            for (int y = 0; y <= 10; y++) {
                FortyHouses got = new FortyHouses();
                for (int d = -9; d <= 9; d++) {
                    for (int n = 1; n <= 9; n++) {
                        CHECK.due("sure " + x + " " + y + " " + n + " " + d, got.sure(x, y, n, d), want.sure(x, y, n, d));
                    }
                }
            }
        }
        for (int n = 1; n <= 12; n++) {
            for (int a = 0; a <= n; a++) {
                for (int b = 0; b <= n; b++) {
                    FortyHouses one = new FortyHouses();
                    Plain plain = new Plain();
                    one.house(n, a, b, 0);
                    plain.house(n, a, b, 0);
                    CHECK.due("luck of " + n + " " + a + " " + b, one.luck(0, 0), plain.luck(0, 0));
                    CHECK.due("all of " + n + " " + a + " " + b, one.luck(0, 1), plain.luck(0, 1));
                }
            }
        }
    }

    private int from(int low, int high) {
        if (random.nextInt(wrongness) == 0) {
            return random.nextInt(3) == 0 ? STRANGE[random.nextInt(STRANGE.length)]
                : random.nextBoolean() ? low - 1 : high + 1;
        }
        return low + random.nextInt(high - low + 1);
    }

    private int houseNumber() {
        return from(0, Math.max(0, want.houses.size() - 1));
    }

    private int findingNumber() {
        return from(0, Math.max(0, want.findings.size() - 1));
    }

    /** Few values, so that there are twins, heaps and ties. */
    private int few(int low, int high) {
        return random.nextBoolean() ? from(low, high) : low + (high - low) / 2;
    }

    private void callOne(String at) {
        int group = random.nextInt(10);
        if (group < 3) {
            callHouses(at);
        } else if (group < 5) {
            callLaws(at);
        } else if (group < 8) {
            callFindings(at);
        } else {
            callOthers(at);
        }
    }

    private void callHouses(String at) {
        int i = houseNumber();
        int what = from(0, 1);
        int set = random.nextBoolean() ? random.nextInt() : random.nextInt(4096);
        int condition = from(0, 5);
        switch (random.nextInt(9)) {
            case 0: {
                int n = few(1, 12);
                int a = few(0, Math.max(0, Math.min(n, 12)));
                int b = few(0, Math.max(0, Math.min(n, 12)));
                int c = from(0, 63);
                CHECK.due(at + "house " + n + " " + a + " " + b + " " + c, got.house(n, a, b, c), want.house(n, a, b, c));
                break;
            }
            case 1: {
                int w = from(0, 3);
                CHECK.due(at + "about " + i + " " + w, got.about(i, w), want.about(i, w));
                break;
            }
            case 2: {
                int top = Math.max(0, want.about(i, 0));
                int a = few(0, top);
                int b = few(0, top);
                CHECK.due(at + "mend " + i + " " + a + " " + b, got.mend(i, a, b), want.mend(i, a, b));
                break;
            }
            case 3:
                CHECK.due(at + "more " + set + " " + what, got.more(set, what), want.more(set, what));
                break;
            case 4:
                CHECK.due(at + "luck " + i + " " + what, got.luck(i, what), want.luck(i, what));
                break;
            case 5:
                CHECK.due(at + "same", got.same(), want.same());
                break;
            case 6:
                CHECK.due(at + "without", got.without(), want.without());
                break;
            case 7:
                CHECK.due(at + "between " + condition + " " + what, got.between(condition, what),
                    want.between(condition, what));
                break;
            default:
                callPriced(at, condition);
        }
    }

    private void callPriced(String at, int condition) {
        int what = from(0, 2);
        // The model is slow here.
        if (what != 0 || random.nextInt(8) == 0) {
            CHECK.due(at + "priced " + condition + " " + what, got.priced(condition, what), want.priced(condition, what));
        }
    }

    private void callLaws(String at) {
        int law = from(0, 5);
        switch (random.nextInt(8)) {
            case 0:
                typeText(at);
                break;
            case 1:
                CHECK.due(at + "laws", got.laws(), want.laws());
                break;
            case 2: {
                int c = from(0, 63);
                int what = from(0, 1);
                CHECK.due(at + "tenths " + law + " " + c + " " + what, got.tenths(law, c, what), want.tenths(law, c, what));
                break;
            }
            case 3:
                CHECK.due(at + "misfit " + law, got.misfit(law), want.misfit(law));
                break;
            case 4: {
                int v = random.nextBoolean() ? from(0, 999) : from(0, 99);
                CHECK.due(at + "span " + v, got.span(v), want.span(v));
                break;
            }
            case 5:
                if (random.nextInt(3) == 0) {
                    CHECK.due(at + "clear", got.clear(), want.clear());
                }
                break;
            default: {
                int what = from(0, 3);
                CHECK.due(at + "best " + what, got.best(what), want.best(what));
            }
        }
    }

    private void typeText(String at) {
        if (random.nextInt(6) == 0) {
            long v = random.nextLong();
            int n = from(1, 8);
            CHECK.due(at + "type " + v + " " + n, got.type(v, n), want.type(v, n));
            return;
        }
        String text = lawText();
        for (int i = 0; i < text.length(); i += 8) {
            int n = Math.min(8, text.length() - i);
            long v = random.nextInt();
            for (int k = 0; k < n; k++) {
                v = v << 8 | text.charAt(i + k);
            }
            CHECK.due(at + "type of '" + text + "'", got.type(v, n), want.type(v, n));
        }
        CHECK.due(at + "laws of '" + text + "'", got.laws(), want.laws());
        if (random.nextInt(4) != 0) {
            CHECK.due(at + "clear", got.clear(), want.clear());
        }
    }

    private String lawText() {
        StringBuilder text = new StringBuilder();
        int items = random.nextInt(8);
        for (int i = 0; i < items; i++) {
            text.append(blanks(0)).append("law").append(blanks(0)).append(tenths()).append(blanks(1)).append(tenths());
            if (random.nextBoolean()) {
                text.append(blanks(0)).append("if").append(blanks(1)).append(run()).append(blanks(1)).append("else")
                    .append(blanks(0)).append(tenths());
            }
            text.append(blanks(0)).append(";");
        }
        for (int faults = random.nextInt(6) - 3; faults > 0 && text.length() > 0; faults--) {
            spoil(text, random.nextInt(text.length()));
        }
        return text.toString();
    }

    private void spoil(StringBuilder text, int place) {
        String signs = "  ;;lawifels0123456789abcdefg\t\0\u00e9\u00ff:/`{A";
        char sign = signs.charAt(random.nextInt(signs.length()));
        switch (random.nextInt(4)) {
            case 0:
                text.deleteCharAt(place);
                break;
            case 1:
                text.insert(place, sign);
                break;
            case 2:
                text.setCharAt(place, sign);
                break;
            default:
                text.setLength(place);
        }
    }

    private String blanks(int atLeast) {
        return " ".repeat(atLeast + (random.nextInt(3) == 0 ? random.nextInt(3) : 0));
    }

    private int tenths() {
        return random.nextInt(wrongness) == 0 ? random.nextInt(120) : random.nextInt(3) * 5;
    }

    private String run() {
        StringBuilder run = new StringBuilder();
        int letters = 1 + random.nextInt(3);
        for (int i = 0; i < letters; i++) {
            char letter = (char) ('a' + random.nextInt(6));
            if (run.indexOf("" + letter) < 0 || random.nextInt(wrongness) == 0) {
                run.append(letter);
            }
        }
        return run.toString();
    }

    private void callFindings(String at) {
        int i = findingNumber();
        switch (random.nextInt(6)) {
            case 0: {
                int price = few(0, 100);
                int mark = few(0, 100);
                int comes = from(0, 1);
                CHECK.due(at + "finding " + price + " " + mark + " " + comes, got.finding(price, mark, comes),
                    want.finding(price, mark, comes));
                break;
            }
            case 1:
            case 2: {
                int on = random.nextBoolean() ? findingNumber() : from(0, Math.max(0, Math.min(i, 99)));
                CHECK.due(at + "stands " + i + " " + on, got.stands(i, on), want.stands(i, on));
                break;
            }
            case 3: {
                int set = random.nextBoolean() ? random.nextInt() : 1 << random.nextInt(17);
                int what = from(0, 1);
                CHECK.due(at + "falls " + set + " " + what, got.falls(set, what), want.falls(set, what));
                break;
            }
            case 4:
                CHECK.due(at + "bears", got.bears(), want.bears());
                break;
            default: {
                int which = from(0, 1);
                int what = from(0, 3);
                CHECK.due(at + "held " + which + " " + what, got.held(which, what), want.held(which, what));
            }
        }
    }

    private void callOthers(String at) {
        int image = from(0, 1);
        int x = from(0, 10);
        int y = from(0, 10);
        int d = from(-9, 9);
        switch (random.nextInt(7)) {
            case 0:
                CHECK.due(at + "keep " + image, got.keep(image), want.keep(image));
                break;
            case 1:
                if (random.nextInt(3) == 0) {
                    CHECK.due(at + "back " + image, got.back(image), want.back(image));
                }
                break;
            case 2: {
                int n = from(1, 9);
                CHECK.due(at + "sure", got.sure(x, y, n, d), want.sure(x, y, n, d));
                break;
            }
            case 3: {
                int h = from(1, 100);
                CHECK.due(at + "need " + x + " " + y + " " + d + " " + h, got.need(x, y, d, h), want.need(x, y, d, h));
                break;
            }
            case 4: {
                int kind = from(0, 6);
                int i = houseNumber();
                CHECK.due(at + "weight " + kind + " " + i, got.weight(kind, i), want.weight(kind, i));
                CHECK.due(at + "trace", got.trace(), want.trace());
                break;
            }
            default: {
                int what = from(0, 5);
                CHECK.due(at + "count " + what, got.count(what), want.count(what));
            }
        }
    }
}
