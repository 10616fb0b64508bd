/** Promises 2 to 9. */
final class HouseBoundaries extends Boundaries {
    HouseBoundaries(Sentences sentences) {
        super(sentences);
    }

    @Override
    void run() {
        twelveHouses();
        people();
        whoDidIt();
        conditions();
        moreIsJoined();
        leastTerms();
        noneWithoutHouses();
        allWays();
        waysOfLuck();
        hundredths();
        peopleOfAShare();
        shares();
        pairs();
        leftOut();
        firstLeftOut();
        fewerThanTwo();
        house();
        about();
        mend();
        more();
        luck();
        can();
        same();
        without();
    }

    private void twelveHouses() {
        term("(12 at most, as they come)");
        FortyHouses x = new FortyHouses();
        for (int i = 0; i < 11; i++) {
            due("house " + i, x.house(i + 1, 0, 0, 0), i);
        }
        x.keep(0);
        due("the twelfth", x.house(12, 1, 2, 3), 11);
        due("the thirteenth", x.house(5, 1, 1, 1), FULL);
        due("how many then", x.count(0), 12);
        for (int i = 0; i < 12; i++) {
            due("as they came, " + i, x.about(i, 0), i + 1);
        }
        due("the last is not written over", x.about(11, 3), 3);
        due("no thirteenth", x.about(12, 0), BAD);
        x.back(0);
        due("eleven again: there is a place", x.house(6, 0, 0, 0), 11);
        due("full again", x.house(6, 0, 0, 0), FULL);
    }

    private void people() {
        term("have N people with the thing and N without it (1 .. 12 each)");
        FortyHouses x = new FortyHouses();
        for (int n : new int[] {0, -1, 13, 14, MIN, MAX}) {
            due("house of " + n, x.house(n, 0, 0, 0), BAD);
        }
        due("one", x.house(1, 0, 0, 0), 0);
        due("twelve", x.house(12, 0, 0, 0), 1);
        due("with and without", x.count(1), 2 + 24);
    }

    private void whoDidIt() {
        term("of these A and B who did it (0 .. N)");
        FortyHouses x = new FortyHouses();
        int made = 0;
        for (int n : new int[] {1, 5, 12}) {
            due("a below, " + n, x.house(n, -1, 0, 0), BAD);
            due("b below, " + n, x.house(n, 0, -1, 0), BAD);
            due("a above, " + n, x.house(n, n + 1, 0, 0), BAD);
            due("b above, " + n, x.house(n, 0, n + 1, 0), BAD);
            due("a none, b all, " + n, x.house(n, 0, n, 0), made++);
            due("a all, b none, " + n, x.house(n, n, 0, 0), made++);
            due("a and b all, " + n, x.house(n, n, n, 0), made++);
        }
        due("least", x.house(5, MIN, 0, 0), BAD);
        due("most", x.house(5, 0, MAX, 0), BAD);
        due("those that were taken", x.count(0), made);
    }

    private void conditions() {
        term("CONDITIONS a .. f (bits 0 .. 5).");
        FortyHouses x = new FortyHouses();
        for (int c : new int[] {-1, 64, 65, 128, MIN, MAX}) {
            due("conditions " + c, x.house(5, 0, 0, c), BAD);
        }
        int[] taken = {0, 1, 2, 4, 8, 16, 32, 62, 63};
        for (int i = 0; i < taken.length; i++) {
            due("conditions " + taken[i], x.house(5, 0, 0, taken[i]), i);
            due("conditions " + taken[i], x.about(i, 3), taken[i]);
        }
    }

    private void moreIsJoined() {
        term("MORE of some HOUSES: their A together by their N together, less their B together by their N together");
        FortyHouses x = withHouses(new int[] {1, 1, 0}, new int[] {12, 0, 0});
        due("no mean of the houses", x.more(3, 0), 1);
        due("no mean of the houses", x.more(3, 1), 13);
        due("most", alike(12, 12, 12, 0).more(4095, 0), 1);
        due("least", alike(12, 12, 0, 12).more(4095, 0), -1);
        due("as many as without", alike(12, 12, 12, 12).more(4095, 0), 0);
        FortyHouses y = alike(12, 12, 12, 0);
        y.mend(11, 11, 0);
        due("all but one", y.more(4095, 0), 143);
        due("all but one", y.more(4095, 1), 144);
    }

    private void leastTerms() {
        term("a fraction in least terms, the lower number above 0");
        FortyHouses x = withHouses(new int[] {12, 2, 10}, new int[] {7, 7, 7}, new int[] {12, 5, 0}, new int[] {12, 4, 0});
        due("below 0", x.more(1, 0), -2);
        due("lower of one below 0", x.more(1, 1), 3);
        due("nothing", x.more(2, 0), 0);
        due("lower of nothing", x.more(2, 1), 1);
        due("in least terms as it is", x.more(4, 0), 5);
        due("in least terms as it is", x.more(4, 1), 12);
        due("the upper divides the lower", x.more(8, 0), 1);
        due("the upper divides the lower", x.more(8, 1), 3);
        due("least of all", alike(12, 12, 0, 12).more(-1, 1), 1);
    }

    private void noneWithoutHouses() {
        term("none without HOUSES.");
        FortyHouses x = new FortyHouses();
        due("no house is there", x.more(-1, 0), NO);
        due("no house is there", x.more(4095, 1), NO);
        x.house(5, 1, 0, 0);
        due("no house is told", x.more(0, 0), NO);
        due("no house is told", x.more(0, 1), NO);
        due("one is", x.more(1, 0), 1);
    }

    private void allWays() {
        term("LUCK of a HOUSE: ALL ways to choose N of its 2 N people");
        long[] all = {2, 6, 20, 70, 252, 924, 3432, 12870, 48620, 184756, 705432, 2704156};
        for (int n = 1; n <= 12; n++) {
            due("all of " + n, alike(1, n, 0, n).luck(0, 1), all[n - 1]);
        }
    }

    private void waysOfLuck() {
        term("WAYS in which A or more of the A and B who did it are among them.");
        int[][] want = {{1, 0, 0, 2}, {1, 0, 1, 2}, {1, 1, 0, 1}, {1, 1, 1, 2}, {2, 1, 1, 5}, {2, 2, 0, 1}, {2, 2, 1, 3},
            {2, 1, 2, 6}, {12, 0, 0, 2704156}, {12, 0, 12, 2704156}, {12, 12, 0, 1}, {12, 12, 1, 13},
            {12, 12, 11, 1352078}, {12, 11, 12, 2704156}, {12, 12, 12, 2704156}};
        for (int[] w : want) {
            due("ways of " + w[0] + " " + w[1] + " " + w[2], alike(1, w[0], w[1], w[2]).luck(0, 0), w[3]);
        }
    }

    private void hundredths() {
        term("CAN BE: a share told in hundredths (0 .. 100)");
        FortyHouses x = new FortyHouses();
        due("none", x.can(0, 9), 1);
        due("all", x.can(100, 9), 1);
        for (int h : new int[] {-1, 101, -100, MIN, MAX}) {
            due(h + " hundredths", x.can(h, 9), BAD);
        }
    }

    private void peopleOfAShare() {
        term("of n people (1 .. 99)");
        FortyHouses x = new FortyHouses();
        due("of one", x.can(100, 1), 1);
        due("of ninety-nine", x.can(100, 99), 1);
        for (int n : new int[] {0, 100, -1, MIN, MAX}) {
            due("of " + n, x.can(50, n), BAD);
        }
    }

    private void shares() {
        term("whether there is a k of 0 .. n with k by n, in hundredths, rounded to the nearest (a half up), just that.");
        FortyHouses x = new FortyHouses();
        for (int n = 1; n <= 99; n++) {
            due("k is 0 of " + n, x.can(0, n), 1);
            due("k is " + n + " of " + n, x.can(100, n), 1);
        }
        // 1 of 1; 1 of 8 is 12.5; 1 of 40 2.5; 1 of 67 1.49; 1 of 66 1.52; 49 and 50 of 99 49.49 and 50.51.
        int[][] want = {{1, 1, 0}, {99, 1, 0}, {50, 2, 1}, {49, 2, 0}, {13, 8, 1}, {12, 8, 0}, {88, 8, 1}, {87, 8, 0},
            {3, 40, 1}, {2, 40, 0}, {98, 40, 1}, {97, 40, 0}, {1, 67, 1}, {2, 67, 0}, {2, 66, 1}, {1, 66, 0},
            {49, 99, 1}, {50, 99, 0}, {51, 99, 1}, {1, 99, 1}, {99, 99, 1}};
        for (int[] w : want) {
            due(w[0] + " of " + w[1], x.can(w[0], w[1]), w[2]);
        }
    }

    private void pairs() {
        term("SAME: how many pairs of HOUSES have the same N, A, B.");
        due("no house", new FortyHouses().same(), 0);
        due("one house", alike(1, 5, 2, 1).same(), 0);
        due("two", alike(2, 5, 2, 1).same(), 1);
        due("twelve", alike(12, 5, 2, 1).same(), 66);
        due("another n", withHouses(new int[] {5, 2, 1}, new int[] {6, 2, 1}).same(), 0);
        due("another a", withHouses(new int[] {5, 2, 1}, new int[] {5, 3, 1}).same(), 0);
        due("another b", withHouses(new int[] {5, 2, 1}, new int[] {5, 2, 2}).same(), 0);
        due("a and b changed", withHouses(new int[] {5, 2, 1}, new int[] {5, 1, 2}).same(), 0);
        due("other conditions", withHouses(new int[] {5, 2, 1, 0}, new int[] {5, 2, 1, 63}).same(), 1);
    }

    private void leftOut() {
        term("LEFT OUT: the HOUSE without which MORE of the others differs most from MORE of all");
        // All 1 by 13; without the first 0, without the second 1.
        due("the second", withHouses(new int[] {1, 1, 0}, new int[] {12, 0, 0}).without(), 1);
        due("the first", withHouses(new int[] {12, 0, 0}, new int[] {1, 1, 0}).without(), 0);
        FortyHouses x = alike(12, 12, 6, 6);
        x.mend(11, 12, 0);
        due("the last of twelve, above", x.without(), 11);
        x.mend(11, 0, 12);
        due("the last of twelve, below", x.without(), 11);
        x.mend(5, 0, 12);
        x.mend(11, 1, 12);
        due("by one more", x.without(), 5);
    }

    private void firstLeftOut() {
        term("(of several the first;");
        due("two alike", alike(2, 12, 5, 2).without(), 0);
        due("twelve alike", alike(12, 12, 12, 0).without(), 0);
        due("as far above as below", withHouses(new int[] {1, 1, 0}, new int[] {1, 0, 1}).without(), 0);
        due("as far below as above", withHouses(new int[] {1, 0, 1}, new int[] {1, 1, 0}).without(), 0);
        FortyHouses x = alike(12, 12, 6, 6);
        x.mend(10, 7, 6);
        x.mend(11, 6, 7);
        due("the last two", x.without(), 10);
    }

    private void fewerThanTwo() {
        term("NONE with fewer than 2).");
        FortyHouses x = new FortyHouses();
        due("no house", x.without(), NONE);
        x.house(12, 12, 0, 0);
        due("one house", x.without(), NONE);
        x.keep(0);
        x.house(12, 12, 0, 0);
        due("two", x.without(), 0);
        x.back(0);
        due("one again", x.without(), NONE);
    }

    private void house() {
        promise(2, "A HOUSE: its number.");
        FortyHouses x = new FortyHouses();
        due("the first", x.house(1, 0, 1, 0), 0);
        due("one as the first", x.house(1, 0, 1, 0), 1);
        promise(2, "BAD; FULL.");
        due("a wrong one takes no number", x.house(1, 2, 0, 0), BAD);
        due("the next", x.house(12, 12, 12, 63), 2);
        FortyHouses full = alike(12, 3, 1, 1);
        due("full", full.house(3, 1, 1, 0), FULL);
        due("BAD ahead of FULL, n", full.house(13, 1, 1, 0), BAD);
        due("BAD ahead of FULL, a", full.house(3, 4, 1, 0), BAD);
        due("BAD ahead of FULL, b", full.house(3, 1, 4, 0), BAD);
        due("BAD ahead of FULL, conditions", full.house(3, 1, 1, 64), BAD);
    }

    private void about() {
        promise(3, "Of a HOUSE: 0 N, 1 A, 2 B, 3 CONDITIONS.");
        FortyHouses x = withHouses(new int[] {1, 0, 1, 63}, new int[] {12, 11, 10, 0});
        int[][] want = {{1, 0, 1, 63}, {12, 11, 10, 0}};
        for (int i = 0; i < 2; i++) {
            for (int what = 0; what < 4; what++) {
                due("about(" + i + ", " + what + ")", x.about(i, what), want[i][what]);
            }
        }
        promise(3, "BAD.");
        for (int wrong : new int[] {-1, 4, MIN, MAX}) {
            due("what " + wrong, x.about(0, wrong), BAD);
        }
        for (int wrong : new int[] {-1, 2, 11, 12, MIN, MAX}) {
            due("house " + wrong, x.about(wrong, 0), BAD);
        }
        due("no house yet", new FortyHouses().about(0, 0), BAD);
    }

    private void mend() {
        promise(4, "A and B of a HOUSE become otherwise: 100 times A and B as they were.");
        FortyHouses x = withHouses(new int[] {12, 12, 12, 9}, new int[] {12, 12, 12, 9});
        due("all", x.mend(0, 0, 0), 1212);
        due("none", x.mend(0, 0, 12), 0);
        due("b alone", x.mend(0, 12, 0), 12);
        due("a alone", x.mend(0, 12, 0), 1200);
        due("n stays", x.about(0, 0), 12);
        due("conditions stay", x.about(0, 3), 9);
        due("the other house stays", x.mend(1, 12, 12), 1212);
        promise(4, "BAD.");
        FortyHouses y = withHouses(new int[] {3, 1, 2}, new int[] {12, 1, 2});
        int[][] wrong = {{0, -1, 0}, {0, 0, -1}, {0, 4, 0}, {0, 0, 4}, {2, 0, 0}, {-1, 0, 0}, {12, 0, 0}, {MIN, 0, 0},
            {0, MAX, 0}, {0, 0, MIN}, {1, 13, 0}, {1, 0, 13}};
        for (int[] w : wrong) {
            due("mend(" + w[0] + ", " + w[1] + ", " + w[2] + ")", y.mend(w[0], w[1], w[2]), BAD);
        }
        due("not even one of the two changed", y.mend(0, 3, 3), 102);
        due("not even one of the two changed", y.mend(1, 12, 12), 102);
        due("no house yet", new FortyHouses().mend(0, 0, 0), BAD);
    }

    private void more() {
        promise(5, "MORE of a set of HOUSES (bits; those that are not there left out)");
        FortyHouses x = withHouses(new int[] {5, 1, 0}, new int[] {7, 0, 2});
        due("the first", x.more(1, 1), 5);
        due("the second", x.more(2, 1), 7);
        due("a third is not there", x.more(4 + 1, 1), 5);
        due("all bits", x.more(-1, 1), 12);
        due("the highest bit", x.more(MIN + 2, 1), 7);
        FortyHouses full = alike(12, 12, 0, 0);
        full.mend(11, 1, 0);
        due("the twelfth", full.more(1 << 11, 0), 1);
        due("no thirteenth", full.more(1 << 12, 0), NO);
        due("all but the twelve", full.more(~4095, 0), NO);
        promise(5, ": upper (what = 0), lower number (1).");
        due("upper", x.more(2, 0), -2);
        due("lower", x.more(2, 1), 7);
        promise(5, "NO: BAD, or none.");
        for (int wrong : new int[] {-1, 2, MIN, MAX}) {
            due("what " + wrong, x.more(1, wrong), NO);
        }
        due("none", x.more(0, 0), NO);
        due("none that is there", x.more(12, 1), NO);
    }

    private void luck() {
        promise(6, "LUCK: WAYS (what = 0), ALL (1).");
        FortyHouses x = withHouses(new int[] {1, 1, 0}, new int[] {12, 12, 0});
        due("ways", x.luck(1, 0), 1);
        due("all", x.luck(1, 1), 2704156);
        due("all of the other", x.luck(0, 1), 2);
        promise(6, "BAD.");
        for (int wrong : new int[] {-1, 2, MIN, MAX}) {
            due("what " + wrong, x.luck(0, wrong), BAD);
            due("house " + wrong, x.luck(wrong, 0), BAD);
        }
        due("no house yet", new FortyHouses().luck(0, 1), BAD);
        due("the last of twelve", alike(12, 1, 1, 0).luck(11, 0), 1);
        due("a thirteenth", alike(12, 1, 1, 0).luck(12, 0), BAD);
    }

    private void can() {
        promise(7, "CAN BE.");
        FortyHouses x = new FortyHouses();
        due("it can", x.can(50, 98), 1);
        due("it can't", x.can(50, 97), 0);
        promise(7, "BAD.");
        due("both wrong", x.can(101, 100), BAD);
        due("the first wrong", x.can(-1, 1), BAD);
        due("the second wrong", x.can(0, 0), BAD);
    }

    private void same() {
        promise(8, "SAME.");
        FortyHouses x = alike(12, 1, 1, 1);
        due("twelve", x.same(), 66);
        x.mend(11, 0, 1);
        due("eleven and one", x.same(), 55);
        x.mend(0, 0, 1);
        due("ten and two", x.same(), 46);
    }

    private void without() {
        promise(9, "LEFT OUT; NONE.");
        FortyHouses x = alike(1, 1, 1, 0);
        due("none", x.without(), NONE);
        x.house(1, 1, 1, 0);
        due("of two", x.without(), 0);
    }
}
