/** Promises 26 and 30: houses by kinds, and the trace. */
final class KindBoundaries extends Boundaries {
    private static final int HOUSE = 0, FIRST = 1, CLOSE = 2, SCEPTIC = 3, BELIEVING = 4, SMALL = 5, FAULTY = 6;

    KindBoundaries(Sentences sentences) {
        super(sentences);
    }

    @Override
    void run() {
        kinds();
        bodies();
        term("HOUSE N (1).");
        weighs(HOUSE, new int[][] {{1, 0, 0, 1}, {12, 12, 12, 12}}, 1);
        term("FIRST half of up, rounded down (10).");
        weighs(FIRST, new int[][] {{1, 1, 1, 0}, {2, 0, 0, 1}, {3, 0, 0, 1}, {11, 0, 0, 5}, {12, 0, 0, 6}}, 11);
        term("CLOSE twice up (100).");
        weighs(CLOSE, new int[][] {{1, 1, 1, 2}, {12, 0, 0, 24}}, 101);
        term("SCEPTIC up, and B (1000).");
        weighs(SCEPTIC, new int[][] {{1, 1, 0, 2}, {1, 0, 1, 3}, {12, 12, 0, 24}, {12, 0, 12, 36}}, 1101);
        term("BELIEVING up, and A (10000).");
        weighs(BELIEVING, new int[][] {{1, 1, 0, 3}, {1, 0, 1, 2}, {12, 12, 0, 36}, {12, 0, 12, 24}}, 10101);
        term("SMALL up less 3, 0 at least (100000).");
        weighs(SMALL, new int[][] {{1, 1, 1, 0}, {2, 0, 0, 0}, {3, 0, 0, 0}, {4, 0, 0, 1}, {12, 0, 0, 9}}, 100001);
        faulty();
        weight();
        trace();
    }

    /** Each alone: its weight, and what is added to the trace. */
    private void weighs(int kind, int[][] want, long traced) {
        for (int[] w : want) {
            FortyHouses x = alike(1, w[0], w[1], w[2]);
            due("house " + w[0] + " " + w[1] + " " + w[2], x.weight(kind, 0), w[3]);
            due("trace", x.trace(), traced);
            due("again", x.weight(kind, 0), w[3]);
            due("trace of two", x.trace(), 2 * traced);
        }
    }

    private void kinds() {
        term("KINDS are over one another: 0 HOUSE; 1 FIRST, 2 CLOSE, 5 SMALL, 6 FAULTY (each under HOUSE); 3 SCEPTIC, "
            + "4 BELIEVING (each under CLOSE).");
        int[] traced = {1, 11, 101, 1101, 10101, 100001, 1000001};
        for (int kind = 0; kind <= 6; kind++) {
            FortyHouses x = alike(1, 5, 2, 3);
            x.weight(kind, 0);
            due("who is over " + kind, x.trace(), traced[kind]);
        }
        FortyHouses x = alike(1, 5, 2, 3);
        due("no kind ahead", x.weight(-1, 0), BAD);
        due("no kind behind", x.weight(7, 0), BAD);
        due("no body is asked", x.trace(), 0);
    }

    private void bodies() {
        term("WEIGHT of a HOUSE (numbers in brackets are added to THE TRACE, 0 at first, as often as weight() "
            + "asks that body; \"up\" is what the KIND above does):");
        FortyHouses x = alike(2, 5, 2, 3);
        due("at first", x.trace(), 0);
        x.about(0, 0);
        x.same();
        due("other calls ask no body", x.trace(), 0);
        for (int kind = 0; kind <= 6; kind++) {
            x.weight(kind, kind % 2);
        }
        due("all seven", x.trace(), 7 + 10 + 3 * 100 + 1000 + 10000 + 100000 + 1000000);
    }

    private void faulty() {
        term("FAULTY up times how many HOUSES have the same N, A, B (itself, too) (1000000).");
        weighs(FAULTY, new int[][] {{1, 0, 0, 1}, {12, 12, 0, 12}}, 1000001);
        FortyHouses x = alike(12, 12, 6, 5);
        due("twelve", x.weight(FAULTY, 11), 144);
        due("one body of each, however many are the same", x.trace(), 1000001);
        x.mend(0, 5, 6);
        due("eleven", x.weight(FAULTY, 11), 132);
        due("alone", x.weight(FAULTY, 0), 12);
        FortyHouses y = withHouses(new int[] {5, 2, 1, 0}, new int[] {5, 2, 1, 63}, new int[] {6, 2, 1}, new int[] {5, 3, 1},
            new int[] {5, 2, 2});
        due("conditions are not asked; n, a and b are", y.weight(FAULTY, 0), 10);
    }

    private void weight() {
        promise(26, "WEIGHT.");
        FortyHouses x = alike(12, 1, 0, 0);
        due("the last kind of the last house", x.weight(FAULTY, 11), 12);
        due("the first of the first", x.weight(HOUSE, 0), 1);
        promise(26, "BAD.");
        for (int wrong : new int[] {-1, 7, MIN, MAX}) {
            due("kind " + wrong, x.weight(wrong, 0), BAD);
        }
        for (int wrong : new int[] {-1, 12, 13, MIN, MAX}) {
            due("house " + wrong, x.weight(FAULTY, wrong), BAD);
        }
        due("no body is asked by these", x.trace(), 1000001 + 1);
        due("no house yet", new FortyHouses().weight(HOUSE, 0), BAD);
        due("one house", alike(1, 5, 0, 0).weight(HOUSE, 1), BAD);
    }

    private void trace() {
        promise(30, "THE TRACE.");
        FortyHouses x = new FortyHouses();
        due("at first", x.trace(), 0);
        x.weight(FAULTY, 0);
        due("refused", x.trace(), 0);
        x.house(5, 1, 1, 0);
        x.weight(FAULTY, 0);
        due("asked", x.trace(), 1000001);
        due("it stays", x.trace(), 1000001);
        use("An object is used for at most 512 calls after it has been made; what later calls answer is free.");
        FortyHouses y = new FortyHouses();
        y.house(12, 1, 1, 0);
        for (int call = 2; call < 512; call++) {
            due("call " + call, y.weight(FAULTY, 0), 12);
        }
        due("call 512", y.trace(), 510L * 1000001);
        FortyHouses z = new FortyHouses();
        for (int call = 1; call < 512; call++) {
            due("call " + call, z.type(' ', 1), call <= 300 ? call : FULL);
        }
        due("call 512", z.laws(), 0);
    }
}
