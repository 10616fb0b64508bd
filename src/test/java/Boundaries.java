/** What the tests of boundary cases have in common. */
abstract class Boundaries {
    static final int BAD = -1, STATE = -2, FULL = -3, NONE = -9, NO = -1000000;
    static final int MIN = Integer.MIN_VALUE, MAX = Integer.MAX_VALUE;

    private final Sentences sentences;

    Boundaries(Sentences sentences) {
        this.sentences = sentences;
    }

    abstract void run();

    final void use(String words) {
        sentences.use(words);
    }

    final void term(String words) {
        sentences.term(words);
    }

    final void promise(int number, String words) {
        sentences.promise(number, words);
    }

    final void due(String call, long got, long want) {
        sentences.due(call, got, want);
    }

    final void same(String call, Object got, Object want) {
        sentences.same(call, got, want);
    }

    static FortyHouses withHouses(int[]... houses) {
        FortyHouses x = new FortyHouses();
        for (int[] h : houses) {
            x.house(h[0], h[1], h[2], h.length > 3 ? h[3] : 0);
        }
        return x;
    }

    /** So many houses of one kind. */
    static FortyHouses alike(int howMany, int n, int a, int b) {
        FortyHouses x = new FortyHouses();
        for (int i = 0; i < howMany; i++) {
            x.house(n, a, b, 0);
        }
        return x;
    }

    static FortyHouses withFindings(int[]... findings) {
        FortyHouses x = new FortyHouses();
        for (int[] f : findings) {
            x.finding(f[0], f[1], f[2]);
        }
        return x;
    }

    static FortyHouses findings(int howMany) {
        FortyHouses x = new FortyHouses();
        for (int i = 0; i < howMany; i++) {
            x.finding(50, 50, 0);
        }
        return x;
    }

    static FortyHouses withText(String text) {
        FortyHouses x = new FortyHouses();
        Check.type(x, text);
        return x;
    }

    static FortyHouses withLaws(String text) {
        FortyHouses x = withText(text);
        x.laws();
        return x;
    }
}
