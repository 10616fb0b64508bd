/** Promises 19 and 20. */
final class NeedBoundaries extends Boundaries {
    private static final long ALL_ROWS = 1000000000000000000L;
    private static final long NINE_TO_THE_18 = 150094635296999121L;

    NeedBoundaries(Sentences sentences) {
        super(sentences);
    }

    @Override
    void run() {
        tried();
        rows();
        leastNeed();
        hundredths();
        never();
        sure();
        need();
    }

    private void tried() {
        term("SURE: with tenths X, Y of n people each (1 .. 9)");
        FortyHouses x = new FortyHouses();
        due("one", x.sure(5, 5, 1, -9), 100);
        due("nine", x.sure(5, 5, 9, -9), ALL_ROWS);
        for (int n : new int[] {0, 10, -1, MIN, MAX}) {
            due("n " + n, x.sure(5, 5, n, 0), BAD);
        }
        due("no tenths", x.sure(0, 0, 1, 0), 100);
        due("all tenths", x.sure(10, 10, 1, 0), 100);
        for (int t : new int[] {-1, 11, MIN, MAX}) {
            due("x " + t, x.sure(t, 5, 1, 0), BAD);
            due("y " + t, x.sure(5, t, 1, 0), BAD);
        }
    }

    private void rows() {
        term("of 10 to the 2 n how many rows have A less B of d at least (-9 .. 9).");
        FortyHouses x = new FortyHouses();
        due("of one each, more", x.sure(3, 6, 1, 1), 12);
        due("of one each, as many", x.sure(3, 6, 1, 0), 58);
        due("of one each, fewer", x.sure(3, 6, 1, -1), 100);
        due("more than there are", x.sure(10, 0, 1, 2), 0);
        due("more than there are", x.sure(10, 0, 8, 9), 0);
        due("nine of nine", x.sure(10, 0, 9, 9), ALL_ROWS);
        due("nine of nine", x.sure(9, 1, 9, 9), NINE_TO_THE_18);
        due("nine of nine, one row", x.sure(1, 9, 9, 9), 1);
        due("all but those of nine fewer", x.sure(1, 9, 9, -8), ALL_ROWS - NINE_TO_THE_18);
        due("nine fewer are all", x.sure(1, 9, 9, -9), ALL_ROWS);
        due("nine fewer alone", x.sure(0, 10, 9, -9), ALL_ROWS);
        due("nine fewer alone", x.sure(0, 10, 9, -8), 0);
        for (int d : new int[] {-10, 10, MIN, MAX}) {
            due("d " + d, x.sure(5, 5, 9, d), BAD);
        }
        long all = 1;
        for (int n = 1; n <= 9; n++) {
            all *= 100;
            due("all rows of " + n, x.sure(7, 3, n, -9), all);
            due("all rows of " + n, x.sure(7, 3, n, -n), all);
        }
    }

    private void leastNeed() {
        term("NEED: the least n (1 .. 9)");
        FortyHouses x = new FortyHouses();
        for (int d = 1; d <= 9; d++) {
            due("all with, none without, " + d, x.need(10, 0, d, 100), d);
        }
        due("one", x.need(0, 0, 0, 100), 1);
        due("not fewer than one", x.need(0, 0, 0, 1), 1);
        due("not fewer than one", x.need(5, 5, -9, 1), 1);
        // With one each 75 of 100, with two fewer: the first is the least, though later ones do not.
        due("the first that does", x.need(5, 5, 0, 75), 1);
        due("none then", x.need(5, 5, 0, 76), NONE);
    }

    private void hundredths() {
        term("by which SURE is h hundredths (1 .. 100) at least");
        FortyHouses x = new FortyHouses();
        // 48 of 100, 6528 of 10000, 748800 of 1000000.
        int[][] want = {{1, 1}, {48, 1}, {49, 2}, {65, 2}, {66, 3}, {74, 3}, {75, 4}};
        for (int[] w : want) {
            due(w[0] + " hundredths", x.need(8, 4, 1, w[0]), w[1]);
        }
        due("just all", x.need(10, 0, 1, 100), 1);
        due("not quite all", x.need(9, 0, 1, 100), NONE);
        for (int h : new int[] {0, 101, -1, MIN, MAX}) {
            due(h + " hundredths", x.need(8, 4, 1, h), BAD);
        }
    }

    private void never() {
        term("at least; NONE.");
        FortyHouses x = new FortyHouses();
        due("nine give 15 hundredths", x.need(9, 1, 9, 15), 9);
        due("and no 16", x.need(9, 1, 9, 16), NONE);
        due("no row at all", x.need(0, 10, 1, 1), NONE);
        due("nine give one row", x.need(1, 9, 9, 1), NONE);
    }

    private void sure() {
        promise(19, "SURE.");
        FortyHouses x = new FortyHouses();
        due("by hand", x.sure(8, 4, 2, 1), 6528);
        due("by hand", x.sure(8, 4, 3, 1), 748800);
        due("five and five", x.sure(5, 5, 9, 9), 3814697265625L);
        promise(19, "-1: BAD.");
        due("x", x.sure(11, 0, 9, 0), -1);
        due("y", x.sure(0, 11, 9, 0), -1);
        due("n", x.sure(0, 0, 10, 0), -1);
        due("d", x.sure(0, 0, 9, 10), -1);
        due("all", x.sure(-1, -1, 0, -10), -1);
    }

    private void need() {
        promise(20, "NEED; NONE.");
        FortyHouses x = new FortyHouses();
        due("need", x.need(8, 4, 2, 80), 8);
        due("none", x.need(0, 0, 1, 1), NONE);
        due("d least", x.need(0, 10, -9, 100), 1);
        due("d most", x.need(10, 0, 9, 1), 9);
        promise(20, "BAD.");
        int[][] wrong = {{-1, 5, 0, 50}, {11, 5, 0, 50}, {5, -1, 0, 50}, {5, 11, 0, 50}, {5, 5, -10, 50}, {5, 5, 10, 50},
            {5, 5, 0, 0}, {5, 5, 0, 101}, {MIN, 5, 0, 50}, {5, MAX, 0, 50}, {5, 5, MIN, 50}, {5, 5, 0, MAX},
            {11, 5, 9, 100}};
        for (int[] w : wrong) {
            due("need(" + w[0] + ", " + w[1] + ", " + w[2] + ", " + w[3] + ")", x.need(w[0], w[1], w[2], w[3]), BAD);
        }
    }
}
