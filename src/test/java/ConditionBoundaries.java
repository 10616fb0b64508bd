/** Promises 10 and 11. */
final class ConditionBoundaries extends Boundaries {
    ConditionBoundaries(Sentences sentences) {
        super(sentences);
    }

    @Override
    void run() {
        gap();
        allSets();
        waysAtLeast();
        allOrNone();
        others();
        othersAtLeast();
        between();
        priced();
    }

    /** Six with it have 1 by 71, six without it 1 by 72: no gap above 0 is less. */
    private static FortyHouses leastGap() {
        FortyHouses x = withHouses(new int[] {11, 1, 0, 1}, new int[] {12, 1, 0, 0});
        for (int i = 0; i < 10; i++) {
            x.house(12, 0, 0, i < 5 ? 1 : 0);
        }
        return x;
    }

    /** One above, one at, one below 0: a, b and c are had by one each, d by all, e by none, f as a. */
    private static FortyHouses three() {
        return withHouses(new int[] {1, 1, 0, 1 + 8 + 32}, new int[] {1, 0, 0, 2 + 8}, new int[] {1, 0, 1, 4 + 8});
    }

    private void gap() {
        term("NAMED: a CONDITION: BETWEEN is MORE of HOUSES that have it less MORE of those that have it not.");
        FortyHouses x = withHouses(new int[] {1, 1, 0, 1}, new int[] {1, 0, 1, 2});
        due("most, upper", x.between(0, 0), 2);
        due("most, lower", x.between(0, 1), 1);
        due("least, upper", x.between(1, 0), -2);
        due("least, lower", x.between(1, 1), 1);
        FortyHouses y = withHouses(new int[] {12, 6, 3, 1}, new int[] {4, 1, 0, 0});
        due("nothing, upper", y.between(0, 0), 0);
        due("nothing, lower", y.between(0, 1), 1);
        due("the least, upper", leastGap().between(0, 0), 1);
        due("the least, lower", leastGap().between(0, 1), 71 * 72);
    }

    private void allSets() {
        term("PRICED: of all sets of as many HOUSES as have it (ALL)");
        int[] want = {12, 66, 220, 495, 792, 924, 792, 495, 220, 66, 12};
        for (int have = 1; have <= 11; have++) {
            FortyHouses x = new FortyHouses();
            for (int i = 0; i < 12; i++) {
                x.house(3, 1, 1, i < have ? 32 : 0);
            }
            due(have + " of twelve", x.priced(5, 1), want[have - 1]);
        }
        due("one of two", withHouses(new int[] {1, 0, 0, 1}, new int[] {1, 0, 0, 0}).priced(0, 1), 2);
    }

    private void waysAtLeast() {
        term("in how many (WAYS) MORE of the set less MORE of the others is BETWEEN at least.");
        FortyHouses x = three();
        due("the most", x.priced(0, 0), 1);
        due("the middle", x.priced(1, 0), 2);
        due("the least", x.priced(2, 0), 3);
        // The set's own gap has that of all sets with the first house and not the second; more have both.
        due("just as much counts", leastGap().priced(0, 0), 252 + 210);
        FortyHouses y = new FortyHouses();
        for (int i = 0; i < 12; i++) {
            y.house(12, 12, 0, i < 6 ? 1 : 0);
        }
        due("all alike", y.priced(0, 0), 924);
    }

    private void allOrNone() {
        term("(STATE: all HOUSES have it, or none.)");
        FortyHouses x = new FortyHouses();
        for (int what = 0; what <= 2; what++) {
            due("no house, " + what, x.priced(0, what), STATE);
            due("all have it, " + what, three().priced(3, what), STATE);
            due("none has it, " + what, three().priced(4, what), STATE);
        }
        x.house(1, 0, 0, 1);
        due("one house that has it", x.priced(0, 0), STATE);
        due("one house that has it not", x.priced(1, 0), STATE);
        x.house(1, 0, 0, 0);
        due("one of two has it", x.priced(0, 0), 2);
        due("none of two has it", x.priced(1, 0), STATE);
    }

    private void others() {
        term("BY OTHERS: how many CONDITIONS that are had by some HOUSES and not by all");
        FortyHouses x = withHouses(new int[] {5, 2, 2, 1 + 2}, new int[] {5, 2, 2, 2});
        due("that of all and those of none do not count", x.priced(0, 2), 1);
        FortyHouses y = withHouses(new int[] {5, 2, 2, 63}, new int[] {5, 2, 2, 0});
        due("all six", y.priced(5, 2), 6);
    }

    private void othersAtLeast() {
        term("have a BETWEEN that is this one's at least (itself, too).");
        FortyHouses x = three();
        due("a: itself and f, which is as much", x.priced(0, 2), 2);
        due("f: itself and a, which is as much", x.priced(5, 2), 2);
        due("b: these and itself", x.priced(1, 2), 3);
        due("c: all", x.priced(2, 2), 4);
        FortyHouses y = withHouses(new int[] {5, 5, 0, 1}, new int[] {5, 0, 5, 2});
        due("itself alone", y.priced(0, 2), 1);
    }

    private void between() {
        promise(10, "BETWEEN of a CONDITION (0 .. 5): upper (what = 0), lower number (1).");
        FortyHouses x = new FortyHouses();
        for (int c = 0; c < 6; c++) {
            x.house(7, c, 0, 1 << c);
        }
        // c by 7 of one, 15 - c by 35 of the others.
        int[][] want = {{-3, 7}, {-9, 35}, {-3, 35}, {3, 35}, {9, 35}, {3, 7}};
        for (int c = 0; c < 6; c++) {
            due("upper of " + c, x.between(c, 0), want[c][0]);
            due("lower of " + c, x.between(c, 1), want[c][1]);
        }
        promise(10, "NO: BAD, or STATE.");
        for (int wrong : new int[] {-1, 6, 31, 32, 64, MIN, MAX}) {
            due("condition " + wrong, x.between(wrong, 0), NO);
        }
        for (int wrong : new int[] {-1, 2, MIN, MAX}) {
            due("what " + wrong, x.between(0, wrong), NO);
        }
        due("no house", new FortyHouses().between(0, 0), NO);
        due("all have it", three().between(3, 0), NO);
        due("all have it", three().between(3, 1), NO);
        due("none has it", three().between(4, 0), NO);
        due("none has it", three().between(4, 1), NO);
    }

    private void priced() {
        promise(11, "PRICED: WAYS (what = 0), ALL (1), BY OTHERS (2).");
        FortyHouses x = three();
        due("ways", x.priced(2, 0), 3);
        due("all", x.priced(0, 1), 3);
        due("by others", x.priced(2, 2), 4);
        promise(11, "BAD; STATE.");
        for (int wrong : new int[] {-1, 3, MIN, MAX}) {
            due("what " + wrong, x.priced(0, wrong), BAD);
            due("BAD ahead of STATE, what " + wrong, x.priced(4, wrong), BAD);
        }
        for (int wrong : new int[] {-1, 6, 32, 64, MIN, MAX}) {
            due("condition " + wrong, x.priced(wrong, 0), BAD);
            due("BAD ahead of STATE, condition " + wrong, new FortyHouses().priced(wrong, 0), BAD);
        }
        due("none has it", x.priced(4, 0), STATE);
    }
}
