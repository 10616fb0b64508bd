/** For each promise ordinary inputs, the edges that the document names, and wrong inputs. */
public final class PromisesTest {
    private static final int BAD = -1, STATE = -2, FULL = -3, NONE = -9, NO = -1000000;
    private static final Check CHECK = new Check();

    public static void main(String[] args) {
        newObject();
        house();
        about();
        mend();
        more();
        luck();
        can();
        same();
        without();
        between();
        priced();
        type();
        clear();
        laws();
        faults();
        tenths();
        misfit();
        best();
        span();
        sure();
        need();
        finding();
        held();
        stands();
        falls();
        bears();
        weight();
        images();
        count();
        trace();
        allFull();
        CHECK.end();
    }

    private static void due(String call, long got, long want) {
        CHECK.due(call, got, want);
    }

    private static void newObject() {
        FortyHouses x = new FortyHouses();
        for (int what = 0; what <= 5; what++) {
            due("1 count(" + what + ")", x.count(what), 0);
        }
        due("1 trace", x.trace(), 0);
        due("1 same", x.same(), 0);
        due("1 about", x.about(0, 0), BAD);
        due("1 back 0", x.back(0), STATE);
        due("1 back 1", x.back(1), STATE);
        due("1 span", x.span(20), 20);
        due("1 BAD", FortyHouses.BAD, BAD);
        due("1 STATE", FortyHouses.STATE, STATE);
        due("1 FULL", FortyHouses.FULL, FULL);
        due("1 NONE", FortyHouses.NONE, NONE);
        due("1 NO", FortyHouses.NO, NO);
    }

    private static void house() {
        FortyHouses x = new FortyHouses();
        int[][] wrong = {{0, 0, 0, 0}, {13, 0, 0, 0}, {-1, 0, 0, 0}, {5, -1, 0, 0}, {5, 6, 0, 0}, {5, 0, -1, 0},
            {5, 0, 6, 0}, {5, 0, 0, -1}, {5, 0, 0, 64}, {Integer.MIN_VALUE, 0, 0, 0}, {5, Integer.MAX_VALUE, 0, 0}};
        for (int[] w : wrong) {
            due("2 wrong", x.house(w[0], w[1], w[2], w[3]), BAD);
        }
        due("2 nothing changed", x.count(0), 0);
        due("2 least", x.house(1, 0, 1, 0), 0);
        due("2 most", x.house(12, 12, 12, 63), 1);
        for (int i = 2; i < 12; i++) {
            due("2 number", x.house(i, 1, 2, i), i);
        }
        due("2 thirteenth", x.house(1, 0, 0, 0), FULL);
        due("2 BAD ahead of FULL", x.house(0, 0, 0, 0), BAD);
        due("2 nothing changed", x.count(0), 12);
    }

    private static void about() {
        FortyHouses x = new FortyHouses();
        x.house(9, 4, 2, 37);
        x.house(12, 0, 12, 63);
        int[][] want = {{9, 4, 2, 37}, {12, 0, 12, 63}};
        for (int i = 0; i < 2; i++) {
            for (int what = 0; what < 4; what++) {
                due("3 about", x.about(i, what), want[i][what]);
            }
        }
        due("3 what", x.about(0, 4), BAD);
        due("3 what", x.about(0, -1), BAD);
        due("3 no such", x.about(2, 0), BAD);
        due("3 no such", x.about(-1, 0), BAD);
        due("3 no such", x.about(12, 0), BAD);
        due("3 no such", x.about(Integer.MIN_VALUE, 0), BAD);
    }

    private static void mend() {
        FortyHouses x = new FortyHouses();
        x.house(12, 7, 11, 5);
        x.house(3, 1, 2, 0);
        due("4 mend", x.mend(0, 12, 0), 711);
        due("4 again", x.mend(0, 12, 0), 1200);
        due("4 to the same", x.mend(0, 12, 0), 1200);
        due("4 a", x.about(0, 1), 12);
        due("4 b", x.about(0, 2), 0);
        due("4 n", x.about(0, 0), 12);
        due("4 conditions", x.about(0, 3), 5);
        due("4 a too many", x.mend(1, 4, 0), BAD);
        due("4 b too many", x.mend(1, 0, 4), BAD);
        due("4 a too few", x.mend(1, -1, 0), BAD);
        due("4 b too few", x.mend(1, 0, -1), BAD);
        due("4 no such", x.mend(2, 0, 0), BAD);
        due("4 no such", x.mend(-1, 0, 0), BAD);
        due("4 nothing changed", x.mend(1, 3, 3), 102);
        due("4 none with the thing", x.mend(1, 0, 3), 303);
        due("4 none without it", x.mend(1, 3, 0), 3);
    }

    private static void more() {
        FortyHouses x = new FortyHouses();
        due("5 none", x.more(-1, 0), NO);
        due("5 none", x.more(-1, 1), NO);
        x.house(10, 2, 8, 0);
        x.house(6, 3, 3, 0);
        x.house(8, 8, 0, 0);
        due("5 below 0", x.more(1, 0), -3);
        due("5 lower above 0", x.more(1, 1), 5);
        due("5 nothing", x.more(2, 0), 0);
        due("5 nothing's lower", x.more(2, 1), 1);
        due("5 one", x.more(4, 0), 1);
        due("5 one", x.more(4, 1), 1);
        due("5 joined, not the mean", x.more(3, 0), -3);
        due("5 joined, not the mean", x.more(3, 1), 8);
        due("5 all", x.more(7, 0), 1);
        due("5 all", x.more(7, 1), 12);
        due("5 those not there", x.more(-1, 1), 12);
        due("5 those not there", x.more(Integer.MIN_VALUE | 4, 0), 1);
        due("5 only such", x.more(8, 0), NO);
        due("5 none", x.more(0, 1), NO);
        due("5 what", x.more(7, 2), NO);
        due("5 what", x.more(7, -1), NO);
        x.house(1, 1, 0, 0);
        due("5 one person each", x.more(8, 0), 1);
        due("5 one person each", x.more(8, 1), 1);
        due("5 in least terms already", x.more(15, 0), 3);
        due("5 in least terms already", x.more(15, 1), 25);
    }

    private static void luck() {
        FortyHouses x = new FortyHouses();
        x.house(1, 1, 0, 0);
        x.house(12, 0, 12, 0);
        x.house(12, 6, 6, 0);
        x.house(3, 2, 1, 0);
        x.house(12, 12, 12, 0);
        due("6 ways", x.luck(0, 0), 1);
        due("6 all", x.luck(0, 1), 2);
        due("6 every way", x.luck(1, 0), 2704156);
        due("6 all", x.luck(1, 1), 2704156);
        due("6 half", x.luck(2, 0), (2704156 + 924 * 924) / 2);
        due("6 small", x.luck(3, 0), 10);
        due("6 small", x.luck(3, 1), 20);
        due("6 all did it", x.luck(4, 0), 2704156);
        x.house(5, 3, 1, 0);
        // Of 4 who did it 3 and 2 of 6 others, or 4 and 1 of these.
        due("6 fewer did it than are chosen", x.luck(5, 0), 4 * 15 + 6);
        due("6 what", x.luck(0, 2), BAD);
        due("6 what", x.luck(0, -1), BAD);
        due("6 no such", x.luck(6, 0), BAD);
        due("6 no such", x.luck(-1, 0), BAD);
    }

    private static void can() {
        FortyHouses x = new FortyHouses();
        due("7 all", x.can(100, 1), 1);
        due("7 not half of one", x.can(50, 1), 0);
        due("7 a half up", x.can(63, 8), 1);
        due("7 not down", x.can(62, 8), 0);
        due("7 2 of 3", x.can(67, 3), 1);
        due("7 2 of 3", x.can(66, 3), 0);
        due("7 0 of 99", x.can(0, 99), 1);
        due("7 1 of 40", x.can(3, 40), 1);
        due("7 1 of 40", x.can(2, 40), 0);
        due("7 below", x.can(-1, 9), BAD);
        due("7 above", x.can(101, 9), BAD);
        due("7 none", x.can(9, 0), BAD);
        due("7 too many", x.can(9, 100), BAD);
        due("7 below", x.can(9, Integer.MIN_VALUE), BAD);
    }

    private static void same() {
        FortyHouses x = new FortyHouses();
        x.house(5, 2, 1, 0);
        due("8 one", x.same(), 0);
        x.house(5, 2, 1, 63);
        due("8 conditions are not asked", x.same(), 1);
        x.house(5, 1, 2, 0);
        x.house(6, 2, 1, 0);
        x.house(5, 2, 2, 0);
        due("8 others", x.same(), 1);
        x.house(5, 2, 1, 1);
        due("8 three of a kind", x.same(), 3);
        x.mend(4, 1, 2);
        due("8 mended", x.same(), 4);
    }

    private static void without() {
        FortyHouses x = new FortyHouses();
        due("9 none", x.without(), NONE);
        x.house(4, 2, 2, 0);
        due("9 one", x.without(), NONE);
        x.house(4, 2, 2, 0);
        due("9 of several the first", x.without(), 0);
        x.house(4, 0, 4, 0);
        due("9 below counts, too", x.without(), 2);
        x.house(4, 4, 0, 0);
        due("9 as far on both sides", x.without(), 2);
        x.mend(2, 1, 3);
        due("9 mended", x.without(), 3);
        FortyHouses y = new FortyHouses();
        y.house(12, 5, 0, 0);
        y.house(1, 1, 0, 0);
        // All 6 by 13; without the first 1, far by 7 by 13; without the second 5 by 12.
        due("9 not the largest house's excess", y.without(), 0);
        y.house(12, 5, 12, 0);
        y.house(12, 0, 12, 0);
        // All -13 by 37; without the others in turn -18 by 25, -14 by 36, -6 by 25, -1 by 25.
        due("9 far", y.without(), 0);
        y.mend(0, 5, 1);
        // All -14 by 37; -18 by 25, -15 by 36, -7 by 25, -2 by 25.
        due("9 far", y.without(), 0);
        y.mend(0, 5, 3);
        // All -16 by 37; -18 by 25, -17 by 36, -9 by 25, -4 by 25.
        due("9 far", y.without(), 0);
        y.mend(0, 5, 5);
        // All -18 by 37; -18 by 25 is far by 216, -11 by 25 by 43, -6 by 25 by 228.
        due("9 far", y.without(), 3);
    }

    private static void between() {
        FortyHouses x = new FortyHouses();
        due("10 no house", x.between(0, 0), NO);
        x.house(10, 2, 4, 1);
        due("10 all have it", x.between(0, 0), NO);
        due("10 none has it", x.between(1, 0), NO);
        x.house(5, 4, 3, 32);
        x.house(5, 5, 2, 33);
        // a: 1 by 15 less 1 by 5; f: 4 by 10 less -2 by 10.
        due("10 upper", x.between(0, 0), -2);
        due("10 lower", x.between(0, 1), 15);
        due("10 upper", x.between(5, 0), 3);
        due("10 lower", x.between(5, 1), 5);
        due("10 what", x.between(5, 2), NO);
        due("10 what", x.between(5, -1), NO);
        due("10 no such", x.between(6, 0), NO);
        due("10 no such", x.between(-1, 0), NO);
        x.mend(1, 5, 4);
        x.mend(0, 2, 1);
        x.mend(2, 2, 1);
        due("10 mended", x.between(0, 0), -1);
        x.mend(1, 1, 1);
        x.mend(2, 1, 2);
        due("10 nothing", x.between(0, 0), 0);
        due("10 nothing's lower", x.between(0, 1), 1);
    }

    private static void priced() {
        FortyHouses x = new FortyHouses();
        due("11 no house", x.priced(0, 0), STATE);
        x.house(4, 4, 0, 1 | 8);
        due("11 all", x.priced(0, 0), STATE);
        due("11 none", x.priced(1, 1), STATE);
        due("11 none", x.priced(1, 2), STATE);
        x.house(4, 4, 0, 1 | 2 | 8);
        x.house(4, 0, 0, 2 | 8);
        x.house(4, 0, 0, 4 | 8);
        // a has both of 1; b has one of 1 and one of 0; c has one of 0; d is had by all.
        int[][] want = {{1, 6, 1}, {5, 6, 2}, {4, 4, 3}};
        for (int condition = 0; condition < 3; condition++) {
            for (int what = 0; what < 3; what++) {
                due("11 priced(" + condition + ", " + what + ")", x.priced(condition, what), want[condition][what]);
            }
        }
        due("11 all", x.priced(3, 0), STATE);
        due("11 none", x.priced(5, 0), STATE);
        due("11 BAD ahead of STATE", x.priced(5, 3), BAD);
        due("11 what", x.priced(0, -1), BAD);
        due("11 no such", x.priced(6, 0), BAD);
        due("11 no such", x.priced(-1, 0), BAD);
        FortyHouses y = new FortyHouses();
        for (int i = 0; i < 12; i++) {
            y.house(12, 6, 6, i % 2);
        }
        due("11 all alike", y.priced(0, 0), 924);
        due("11 all", y.priced(0, 1), 924);
        due("11 by others", y.priced(0, 2), 1);
    }

    private static void type() {
        FortyHouses x = new FortyHouses();
        due("12 none", x.type(0, 0), BAD);
        due("12 nine", x.type(0, 9), BAD);
        due("12 below", x.type(0, -1), BAD);
        due("12 the lowest three", x.type(0x7878_6C6177L, 3), 3);
        due("12 the highest first", x.type(0x2033_2034_3BL, 5), 8);
        due("12 read", x.laws(), 1);
        due("12 read", x.tenths(0, 0, 0), 3);
        due("12 read", x.tenths(0, 0, 1), 4);
        for (int i = 1; i <= 37; i++) {
            due("12 many", x.type(-1, 8), 8 * i);
        }
        due("12 five more do not go", x.type(-1, 5), FULL);
        due("12 BAD ahead of FULL", x.type(-1, 9), BAD);
        due("12 four go", x.type(-1, 4), 300);
        due("12 one more does not go", x.type(0, 1), FULL);
        due("12 nothing changed", x.count(5), 300);
    }

    private static void clear() {
        FortyHouses x = new FortyHouses();
        due("13 empty", x.clear(), 0);
        Check.type(x, "law 1 2;");
        x.laws();
        Check.type(x, "law 9 9;x");
        due("13 had", x.clear(), 9);
        due("13 is empty", x.count(5), 0);
        due("13 laws stay", x.count(2), 1);
        due("13 again", x.clear(), 0);
        Check.type(x, "law 7 8;");
        due("13 nothing of it is left", x.laws(), 1);
        due("13 nothing of it is left", x.tenths(0, 0, 0), 7);
    }

    private static int read(String text) {
        FortyHouses x = new FortyHouses();
        Check.type(x, text);
        return x.laws();
    }

    private static void laws() {
        due("14 empty", read(""), 0);
        due("14 blanks", read("     "), 0);
        due("14 one", read("law 0 10;"), 1);
        due("14 blanks", read("  law  0   10  ;  "), 1);
        due("14 none needed", read("law0 10if abcdef else3;law 1 1;"), 2);
        due("14 six", read("law 1 1;law 1 1;law 1 1;law 1 1;law 1 1;law 1 1;"), 6);
        due("14 a run in any order", read("law 1 1 if fade else 0;"), 1);
        FortyHouses x = new FortyHouses();
        Check.type(x, "law 1 2;law 3 4 if c else 5;");
        due("14 two", x.laws(), 2);
        due("14 the text is empty", x.count(5), 0);
        Check.type(x, "law 6 7;law");
        due("14 fault", x.laws(), -21);
        due("14 nothing changed", x.count(5), 11);
        due("14 nothing changed", x.count(2), 2);
        due("14 nothing changed", x.tenths(0, 0, 0), 1);
        due("14 nothing changed", x.tenths(1, 0, 0), 5);
        Check.type(x, " 8 9;");
        due("14 goes on", x.laws(), 2);
        due("14 new ones", x.tenths(1, 0, 0), 8);
        due("14 none", x.laws(), 0);
        due("14 none", x.count(2), 0);
    }

    private static void fault(String text, int place) {
        due("14 fault of '" + text + "'", read(text), -10 - place);
    }

    private static void faults() {
        fault("l", 0);
        fault("lawz 1 1;", 0);
        fault("xaw 1 1;", 0);
        fault("if 1 1;", 0);
        fault("law 1 1 law a else 1;", 8);
        fault("alaw 1 1;", 0);
        fault("law 1 1 if a else 9a;", 19);
        fault("la w 1 1;", 0);
        fault("Law 1 1;", 0);
        fault(";", 0);
        fault("  ;", 2);
        fault("law 1 1;;", 8);
        fault("law 11 1;", 4);
        fault("law 1 99;", 6);
        fault("law 100 1;", 4);
        fault("law 4294967297 1;", 4);
        fault("law 18446744073709551617 1;", 4);
        fault("law 00 1;", 4);
        fault("law 1 01;", 6);
        fault("law -1 1;", 4);
        fault("law 1,1;", 5);
        fault("law a 1;", 4);
        fault("law if;", 4);
        fault("law 1 law;", 6);
        fault("law 1 1 1;", 8);
        fault("law 1 1 else 1;", 8);
        fault("law 1 1 if;", 10);
        fault("law 1 1 if 1 else 1;", 11);
        fault("law 1 1 if else 1;", 11);
        fault("law 1 1 if law else 1;", 11);
        fault("law 1 1 if abca else 1;", 11);
        fault("law 1 1 if abcdefg else 1;", 11);
        fault("law 1 1 if a b else 1;", 13);
        fault("law 1 1 if aelse 1;", 11);
        fault("law 1 1 if a elsa 1;", 13);
        fault("law 1 1 if a else b;", 18);
        fault("law 1 1 if a else 11;", 18);
        fault("law 1 1 if a else 1 if b else 2;", 20);
        fault("law 1 1" + (char) 9 + ";", 7);
        fault("law 1 1" + (char) 0 + ";", 7);
        fault("law 1 1;" + (char) 233, 8);
        fault("law 1 1;" + (char) 255 + "law", 8);
        fault("law 1 1;" + (char) (128 + 'l') + "aw 1 1;", 8);
        fault("law 1 1;law", 11);
        fault("law 1 1;law   ", 14);
        fault("law 1 1 if a else 10", 20);
        fault("law 1 1 if a else", 17);
        fault("law 1 1 if a", 12);
        fault("law 1", 5);
        fault("law 1 1;law 1 1;law 1 1;law 1 1;law 1 1;law 1 1;  law", 50);
        fault("law 1 1;law 1 1;law 1 1;law 1 1;law 1 1;law 1 1;if", 48);
        fault("law 5;law 5 5 x", 5);
        String long300 = "law 1 1;" + " ".repeat(291) + "l";
        fault(long300, 299);
        due("14 just 300", read("law 1 1;" + " ".repeat(284) + "law 2 2;"), 2);
    }

    private static void tenths() {
        FortyHouses x = new FortyHouses();
        due("15 no law", x.tenths(0, 0, 0), BAD);
        Check.type(x, "law 3 4;law 8 2 if fb else 1;");
        x.laws();
        for (int had = 0; had < 64; had++) {
            due("15 always", x.tenths(0, had, 0), 3);
            due("15 always", x.tenths(0, had, 1), 4);
            due("15 all of which", x.tenths(1, had, 0), (had & 2) != 0 && (had & 32) != 0 ? 8 : 1);
            due("15 without", x.tenths(1, had, 1), 2);
        }
        due("15 conditions", x.tenths(0, 64, 0), BAD);
        due("15 conditions", x.tenths(0, -1, 0), BAD);
        due("15 what", x.tenths(0, 0, 2), BAD);
        due("15 what", x.tenths(0, 0, -1), BAD);
        due("15 no such", x.tenths(2, 0, 0), BAD);
        due("15 no such", x.tenths(-1, 0, 0), BAD);
        due("15 no such", x.tenths(6, 0, 0), BAD);
    }

    private static void misfit() {
        FortyHouses x = new FortyHouses();
        Check.type(x, "law 5 2;law 10 0 if ab else 0;");
        x.laws();
        due("16 no house", x.misfit(0), 0);
        x.house(7, 3, 2, 1);
        x.house(12, 0, 12, 3);
        // 5 and 6 of the first, 60 and 96 of the second.
        due("16 fixed", x.misfit(0), 167);
        // 30 and 20 of the first, 120 and 120 of the second.
        due("16 by conditions", x.misfit(1), 290);
        due("16 no such", x.misfit(2), BAD);
        due("16 no such", x.misfit(-1), BAD);
    }

    private static void best() {
        FortyHouses x = new FortyHouses();
        due("17 none", x.best(0), NONE);
        due("17 none", x.best(1), 0);
        due("17 none", x.best(2), NONE);
        due("17 none", x.best(3), NONE);
        due("17 what", x.best(4), BAD);
        due("17 what", x.best(-1), BAD);
        Check.type(x, "law 6 5;law 5 5;law 5 5 if c else 5;law 5 5 if bd else 8;law 5 5 if a else 7;");
        x.laws();
        due("17 without houses the first", x.best(0), 0);
        due("17 without houses all", x.best(1), 31);
        // With none: 6 5 5 8 7, with a: 6 5 5 8 5, with b and d: 6 5 5 5 7.
        due("17 next", x.best(2), 0);
        due("17 heap", x.best(3), 2);
        x.house(10, 5, 5, 1 | 2 | 8);
        due("17 the first of several", x.best(0), 1);
        due("17 may be", x.best(1), 31);
        x.span(9);
        due("17 one is beyond the span", x.best(1), 30);
        x.span(10);
        due("17 one is just in it", x.best(1), 31);
        due("17 what", x.best(4), BAD);

        FortyHouses y = new FortyHouses();
        Check.type(y, "law 5 5;law 5 5 if bd else 6;law 5 5;law 5 5 if d else 6;law 4 5 if d else 5;");
        y.laws();
        // None: 5 6 5 6 5; d: 5 6 5 5 4; a heap of 3 in each; b changes nothing without d; bd: 5 5 5 5 4.
        due("17 the least set", y.best(2), 0);
        due("17 heap", y.best(3), 3);
        Check.type(y, "law 5 5;law 3 5 if ad else 5;law 4 5 if d else 5;");
        y.laws();
        due("17 the set that parts all", y.best(2), 9);
        due("17 heap", y.best(3), 1);
        Check.type(y, "law 5 5;law 3 5 if bfcaed else 5;");
        y.laws();
        due("17 all conditions", y.best(2), 63);
        due("17 heap", y.best(3), 1);
        Check.type(y, "law 10 5;law 10 5;law 10 5 if a else 10;law 4 5;");
        y.laws();
        due("17 a heap of all", y.best(3), 3);
        Check.type(y, "law 0 5;law 0 5;law 4 5;");
        y.laws();
        due("17 a heap of none", y.best(3), 2);
    }

    private static void span() {
        FortyHouses x = new FortyHouses();
        due("18 at first", x.span(0), 20);
        due("18 least", x.span(999), 0);
        due("18 below", x.span(-1), BAD);
        due("18 above", x.span(1000), BAD);
        due("18 nothing changed", x.span(5), 999);
        x.keep(0);
        x.span(6);
        x.back(0);
        due("18 not in an image", x.span(7), 6);
    }

    private static void sure() {
        FortyHouses x = new FortyHouses();
        due("19 one of each", x.sure(3, 6, 1, 1), 3 * 4);
        due("19 one of each", x.sure(3, 6, 1, 0), 100 - 7 * 6);
        due("19 one of each", x.sure(3, 6, 1, -1), 100);
        due("19 beyond n", x.sure(3, 6, 1, 2), 0);
        due("19 beyond n", x.sure(10, 0, 8, 9), 0);
        due("19 below n", x.sure(0, 10, 1, -9), 100);
        due("19 sure", x.sure(0, 10, 9, -9), 1000000000000000000L);
        due("19 by hand", x.sure(5, 5, 2, 2), 25 * 25);
        int[][] wrong = {{-1, 5, 5, 0}, {11, 5, 5, 0}, {5, -1, 5, 0}, {5, 11, 5, 0}, {5, 5, 0, 0}, {5, 5, 10, 0},
            {5, 5, -1, 0}, {5, 5, 5, 10}, {5, 5, 5, -10}, {5, 5, Integer.MAX_VALUE, 0}, {5, 5, 5, Integer.MIN_VALUE}};
        for (int[] w : wrong) {
            due("19 wrong", x.sure(w[0], w[1], w[2], w[3]), -1);
        }
    }

    private static void need() {
        FortyHouses x = new FortyHouses();
        due("20 the least", x.need(8, 4, 1, 48), 1);
        due("20 not yet", x.need(8, 4, 1, 49), 2);
        due("20 all of them", x.need(10, 0, 5, 100), 5);
        due("20 nine", x.need(10, 0, 9, 100), 9);
        due("20 below", x.need(0, 10, -9, 100), 1);
        due("20 below", x.need(0, 10, -8, 100), 1);
        due("20 never", x.need(0, 10, 1, 1), NONE);
        due("20 nine are not enough", x.need(9, 1, 9, 100), NONE);
        int[][] wrong = {{-1, 5, 0, 50}, {11, 5, 0, 50}, {5, -1, 0, 50}, {5, 11, 0, 50}, {5, 5, -10, 50},
            {5, 5, 10, 50}, {5, 5, 0, 0}, {5, 5, 0, 101}, {5, 5, 0, -1}};
        for (int[] w : wrong) {
            due("20 wrong", x.need(w[0], w[1], w[2], w[3]), BAD);
        }
    }

    private static void finding() {
        FortyHouses x = new FortyHouses();
        int[][] wrong = {{-1, 0, 0}, {101, 0, 0}, {0, -1, 0}, {0, 101, 0}, {0, 0, -1}, {0, 0, 2}};
        for (int[] w : wrong) {
            due("21 wrong", x.finding(w[0], w[1], w[2]), BAD);
        }
        due("21 nothing changed", x.count(3), 0);
        for (int i = 0; i < 16; i++) {
            due("21 number", x.finding(i % 2 * 100, (i + 1) % 2 * 100, i % 2), i);
        }
        due("21 seventeenth", x.finding(0, 0, 0), FULL);
        due("21 BAD ahead of FULL", x.finding(0, 0, 2), BAD);
        due("21 nothing changed", x.count(3), 16);
    }

    private static void held() {
        FortyHouses x = new FortyHouses();
        for (int which = 0; which < 2; which++) {
            for (int what = 0; what < 4; what++) {
                due("22 none", x.held(which, what), 0);
            }
        }
        x.finding(100, 0, 1);
        x.finding(100, 30, 1);
        // All came: each cut up to the least price is right for all.
        due("22 off", x.held(0, 0), 0);
        due("22 off", x.held(1, 0), 10000 + 4900);
        due("22 no pair", x.held(0, 1), 0);
        due("22 cut", x.held(0, 2), 0);
        due("22 right", x.held(0, 3), 2);
        x.finding(100, 30, 0);
        due("22 as much counts once", x.held(0, 1), 2);
        due("22 less counts nothing", x.held(1, 1), 1);
        due("22 off", x.held(0, 0), 10000);
        due("22 off", x.held(1, 0), 10000 + 4900 + 900);
        x.finding(100, 0, 0);
        x.finding(100, 0, 0);
        due("22 cut above all", x.held(0, 2), 101);
        due("22 right", x.held(0, 3), 3);
        due("22 cut of marks", x.held(1, 2), 1);
        due("22 right", x.held(1, 3), 3);
        due("22 which", x.held(2, 0), BAD);
        due("22 which", x.held(-1, 0), BAD);
        due("22 what", x.held(0, 4), BAD);
        due("22 what", x.held(0, -1), BAD);
        FortyHouses y = new FortyHouses();
        y.finding(10, 90, 0);
        y.finding(20, 90, 1);
        y.finding(30, 10, 0);
        due("22 one more, one less", y.held(0, 1), 2);
        due("22 one as much, one more", y.held(1, 1), 3);
    }

    private static FortyHouses withFindings(int howMany) {
        FortyHouses x = new FortyHouses();
        for (int i = 0; i < howMany; i++) {
            x.finding(50, 50, 1);
        }
        return x;
    }

    private static void stands() {
        FortyHouses x = withFindings(16);
        due("23 on itself", x.stands(3, 3), BAD);
        due("23 on a later one", x.stands(3, 4), BAD);
        due("23 below", x.stands(3, -1), BAD);
        due("23 no such", x.stands(16, 0), BAD);
        due("23 no such", x.stands(-1, -2), BAD);
        due("23 no such", x.stands(Integer.MIN_VALUE, Integer.MAX_VALUE), BAD);
        due("23 one", x.stands(15, 14), 1);
        due("23 two", x.stands(15, 0), 2);
        due("23 on that already", x.stands(15, 14), BAD);
        due("23 three", x.stands(15, 7), 3);
        due("23 a fourth", x.stands(15, 8), FULL);
        due("23 BAD ahead of FULL", x.stands(15, 7), BAD);
        due("23 nothing changed", x.falls(1 << 8, 0), 1 << 8);
        due("23 first", x.stands(0, 0), BAD);
    }

    private static void falls() {
        FortyHouses x = withFindings(6);
        x.stands(1, 0);
        x.stands(2, 1);
        x.stands(3, 2);
        x.stands(4, 3);
        x.stands(4, 0);
        due("24 those", x.falls(1, 0), 31);
        due("24 round by round", x.falls(1, 1), 3);
        due("24 nothing stands on it", x.falls(32, 0), 32);
        due("24 no round", x.falls(32, 1), 0);
        due("24 two at once", x.falls(1 | 4, 1), 1);
        due("24 two at once", x.falls(1 | 4, 0), 31);
        due("24 none", x.falls(0, 0), 0);
        due("24 none", x.falls(0, 1), 0);
        due("24 those not there", x.falls(-1 << 6, 0), 0);
        due("24 all", x.falls(-1, 0), 63);
        due("24 all", x.falls(-1, 1), 0);
        due("24 what", x.falls(1, 2), BAD);
        due("24 what", x.falls(1, -1), BAD);
        FortyHouses chain = withFindings(16);
        for (int i = 1; i < 16; i++) {
            chain.stands(i, i - 1);
        }
        due("24 the longest", chain.falls(1, 0), 65535);
        due("24 the longest", chain.falls(1, 1), 15);
    }

    private static void bears() {
        FortyHouses x = withFindings(0);
        due("25 none", x.bears(), NONE);
        x = withFindings(7);
        due("25 the first of several", x.bears(), 0);
        x.stands(2, 1);
        due("25 one on it", x.bears(), 1);
        x.stands(4, 3);
        due("25 the first of several", x.bears(), 1);
        x.stands(5, 4);
        due("25 over a row", x.bears(), 3);
    }

    private static void weight() {
        FortyHouses x = new FortyHouses();
        due("26 no such", x.weight(0, 0), BAD);
        x.house(7, 2, 5, 0);
        x.house(2, 0, 0, 0);
        x.house(7, 2, 5, 3);
        x.house(7, 5, 2, 0);
        int[] first = {7, 3, 14, 19, 16, 4, 14};
        int[] second = {2, 1, 4, 4, 4, 0, 2};
        for (int kind = 0; kind < 7; kind++) {
            due("26 weight(" + kind + ", 0)", x.weight(kind, 0), first[kind]);
            due("26 weight(" + kind + ", 1)", x.weight(kind, 1), second[kind]);
        }
        due("26 no such", x.weight(0, 4), BAD);
        due("26 no such", x.weight(0, -1), BAD);
        due("26 kind", x.weight(7, 0), BAD);
        due("26 kind", x.weight(-1, 0), BAD);
    }

    private static void images() {
        FortyHouses x = new FortyHouses();
        for (int image : new int[] {-1, 2, Integer.MIN_VALUE}) {
            due("27 no such", x.keep(image), BAD);
            due("28 no such", x.back(image), BAD);
        }
        due("27 empty", x.keep(0), 0);
        x.house(5, 1, 2, 3);
        x.house(6, 1, 2, 3);
        x.finding(1, 2, 1);
        x.finding(3, 4, 0);
        x.finding(3, 4, 0);
        x.stands(2, 0);
        due("27 together", x.keep(1), 5);
        x.mend(0, 5, 5);
        x.house(7, 1, 2, 3);
        x.stands(2, 1);
        x.finding(100, 0, 1);
        Check.type(x, "law 1 2;");
        x.laws();
        Check.type(x, "text");
        x.weight(6, 0);
        due("28 together", x.back(1), 5);
        due("28 houses", x.count(0), 2);
        due("28 as it was", x.about(0, 1), 1);
        due("28 as it was", x.about(0, 2), 2);
        due("28 findings", x.count(3), 3);
        due("28 as it was", x.held(0, 0), 99 * 99 + 9 + 9);
        due("28 what stands", x.falls(2, 0), 2);
        due("28 what stands", x.falls(1, 0), 5);
        due("28 laws stay", x.count(2), 1);
        due("28 the text stays", x.count(5), 4);
        due("28 the trace stays", x.trace(), 1000001);
        due("28 the image is no longer the same thing", x.mend(0, 4, 4), 102);
        due("28 again", x.back(1), 5);
        due("28 as it was", x.about(0, 1), 1);
        due("28 the other", x.back(0), 0);
        due("28 none", x.count(0), 0);
        due("28 none", x.count(3), 0);
        x.finding(1, 1, 1);
        x.finding(1, 1, 1);
        x.finding(1, 1, 1);
        due("28 new ones stand on nothing", x.falls(1, 0), 1);
        due("27 anew", x.keep(1), 3);
        due("28 anew", x.back(1), 3);
        due("28 anew", x.count(0), 0);
    }

    private static void count() {
        FortyHouses x = new FortyHouses();
        x.house(5, 1, 2, 3);
        x.house(12, 1, 2, 3);
        x.finding(1, 2, 1);
        x.finding(1, 2, 0);
        x.finding(1, 2, 1);
        Check.type(x, "law 1 2;");
        x.laws();
        Check.type(x, "law 1 2");
        int[] want = {2, 34, 1, 3, 2, 7};
        for (int what = 0; what < 6; what++) {
            due("29 count(" + what + ")", x.count(what), want[what]);
        }
        due("29 what", x.count(6), BAD);
        due("29 what", x.count(-1), BAD);
    }

    private static void trace() {
        int[] want = {1, 11, 101, 1101, 10101, 100001, 1000001};
        FortyHouses x = new FortyHouses();
        x.house(9, 1, 2, 0);
        long sum = 0;
        for (int kind = 0; kind < 7; kind++) {
            x.weight(kind, 0);
            sum += want[kind];
            due("30 trace", x.trace(), sum);
        }
        x.weight(7, 0);
        x.weight(-1, 0);
        x.weight(0, 1);
        due("30 nothing is asked by what is refused", x.trace(), sum);
        x.keep(0);
        x.weight(6, 0);
        x.back(0);
        due("30 not in an image", x.trace(), sum + 1000001);
    }

    /** Every call that goes over rows, where the rows have no free place left. */
    private static void allFull() {
        FortyHouses x = withFindings(16);
        for (int i = 0; i < 12; i++) {
            x.house(12, i, 0, i < 6 ? 1 : 0);
        }
        Check.type(x, "law 1 1;law 2 1;law 3 1;law 4 1;law 5 1;law 6 1;");
        due("full laws", x.laws(), 6);
        due("full more", x.more(-1, 0), 11);
        due("full more", x.more(-1, 1), 24);
        due("full same", x.same(), 0);
        due("full without", x.without(), 0);
        due("full between", x.between(0, 0), -1);
        due("full between", x.between(0, 1), 2);
        due("full priced", x.priced(0, 0), 924);
        due("full priced", x.priced(0, 1), 924);
        due("full priced", x.priced(0, 2), 1);
        due("full weight", x.weight(6, 11), 12);
        // How far 10 times 0 to 11 are from 60, and 0 from 12 in each house.
        due("full misfit", x.misfit(4), 60 + 50 + 40 + 30 + 20 + 10 + 0 + 10 + 20 + 30 + 40 + 50 + 12 * 12);
        due("full best", x.best(0), 4);
        due("full next", x.best(2), 0);
        due("full held", x.held(0, 0), 16 * 2500);
        due("full held", x.held(1, 1), 0);
        due("full held", x.held(0, 2), 0);
        due("full held", x.held(0, 3), 16);
        due("full falls", x.falls(-1, 0), 65535);
        due("full bears", x.bears(), 0);
        due("full people", x.count(1), 288);
        due("full came", x.count(4), 16);
        due("full keep", x.keep(0), 28);
        due("full back", x.back(0), 28);
    }
}
