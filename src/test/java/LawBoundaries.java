/** Promises 15 to 18: what laws tell, how they fit, and what to try next. */
final class LawBoundaries extends Boundaries {
    LawBoundaries(Sentences sentences) {
        super(sentences);
    }

    @Override
    void run() {
        allConditions();
        otherwise();
        misfits();
        bestLaw();
        noMoreThanSpan();
        spans();
        mostUnlike();
        leastSet();
        noneMayBe();
        tenths();
        misfit();
        best();
        span();
    }

    private void allConditions() {
        term("or law X Y if WHICH else Z (X where the HOUSE has all CONDITIONS of WHICH,");
        String[] runs = {"a", "f", "bd", "abcdef"};
        int[] which = {1, 32, 2 + 8, 63};
        for (int i = 0; i < runs.length; i++) {
            FortyHouses x = withLaws("law 10 5 if " + runs[i] + " else 0;");
            for (int c = 0; c < 64; c++) {
                boolean hasAll = (c & which[i]) == which[i];
                due(runs[i] + " under " + c, x.tenths(0, c, 0), hasAll ? 10 : 0);
                due("those without, " + runs[i] + " under " + c, x.tenths(0, c, 1), 5);
            }
        }
        FortyHouses y = withLaws("law 10 0;");
        due("of no condition, under none", y.tenths(0, 0, 0), 10);
        due("of no condition, under all", y.tenths(0, 63, 0), 10);
    }

    private void otherwise() {
        term("else Z).");
        FortyHouses x = withLaws("law 0 0 if ab else 10;");
        due("none", x.tenths(0, 0, 0), 10);
        due("one of the two", x.tenths(0, 1, 0), 10);
        due("the other", x.tenths(0, 2, 0), 10);
        due("all but one of the two", x.tenths(0, 61, 0), 10);
        due("both", x.tenths(0, 3, 0), 0);
    }

    private void misfits() {
        term("MISFIT of a LAW: for each HOUSE how far 10 A is from its tenths times N, and 10 B from Y times N, added, "
            + "over all.");
        FortyHouses x = withLaws("law 0 0;law 10 10;law 5 5;law 10 0 if a else 0;");
        due("no house", x.misfit(0), 0);
        x.house(12, 12, 12, 0);
        due("as far as can be", x.misfit(0), 240);
        due("none at all", x.misfit(1), 0);
        due("below counts as above", x.misfit(2), 120);
        due("without the condition", x.misfit(3), 240);
        x.house(1, 1, 0, 1);
        due("with the condition", x.misfit(3), 240);
        due("one each", x.misfit(2), 130);
        due("above and below are not set off", x.misfit(1), 10);
        FortyHouses full = alike(12, 12, 12, 12);
        Check.type(full, "law 0 0;");
        full.laws();
        due("of all twelve", full.misfit(0), 2880);
    }

    private void bestLaw() {
        term("BEST: the LAW with the least, of several the first; NONE.");
        due("no law", new FortyHouses().best(0), NONE);
        due("no house: all are alike", withLaws("law 5 5;".repeat(6)).best(0), 0);
        FortyHouses x = withLaws("law 9 9;law 9 9;law 9 9;law 9 9;law 9 9;law 0 0;");
        x.house(1, 0, 0, 0);
        due("the sixth", x.best(0), 5);
        x.mend(0, 1, 1);
        due("the first of five", x.best(0), 0);
        FortyHouses y = withLaws("law 1 0;law 0 1;law 0 0 if a else 1;law 0 0 if b else 1;");
        y.house(1, 0, 0, 1);
        due("by one tenth", y.best(0), 2);
        y.laws();
        due("no law any more", y.best(0), NONE);
    }

    private void noMoreThanSpan() {
        term("MAY BE: LAWS whose MISFIT is no more than that of BEST and SPAN");
        FortyHouses x = withLaws("law 0 0;law 10 9;law 10 10;");
        x.house(1, 0, 0, 0);
        due("19 and 20 of 20", x.best(1), 7);
        x.span(19);
        due("19 of 19, not 20", x.best(1), 3);
        x.span(18);
        due("neither of 18", x.best(1), 1);
        x.mend(0, 1, 1);
        due("1 of 18 above the best", x.best(1), 6);
        x.span(0);
        due("the best alone", x.best(1), 4);
        due("as little as the best", withTwins().best(1), 5);
        due("no law", new FortyHouses().best(1), 0);
        due("no house", withLaws("law 0 0;law 10 10;".repeat(3)).best(1), 63);
        // The best has 190 itself: what counts is how far the others are beyond it.
        FortyHouses y = withLaws("law 0 0;law 1 0;");
        y.house(10, 10, 10, 0);
        due("10 beyond it", y.best(1), 3);
        y.span(9);
        due("10 beyond it", y.best(1), 2);
    }

    private static FortyHouses withTwins() {
        FortyHouses x = withLaws("law 5 5;law 5 6;law 5 5;");
        x.house(10, 5, 5, 0);
        x.span(0);
        return x;
    }

    private void spans() {
        term("(0 .. 999; 20 at first).");
        due("at first", new FortyHouses().span(0), 20);
        FortyHouses x = withLaws("law 0 0;law 3 0;");
        x.house(7, 0, 0, 0);
        due("21 at first", x.best(1), 1);
        x.span(21);
        due("21 of 21", x.best(1), 3);
        FortyHouses y = alike(9, 12, 0, 0);
        y.house(3, 0, 0, 0);
        Check.type(y, "law 0 0;law 9 0;law 10 0;");
        y.laws();
        due("the widest", y.span(999), 20);
        due("999 of 999, not 1110", y.best(1), 3);
        y.house(1, 0, 0, 0);
        due("1008 of 999", y.best(1), 1);
        due("beyond", y.span(1000), BAD);
        due("below", y.span(-1), BAD);
        due("none", y.span(0), 999);
    }

    private void mostUnlike() {
        term("NEXT: the set of CONDITIONS under which those LAWS that MAY BE tell most unlike tenths for those with the "
            + "thing: the fewest LAWS in the greatest heap that tell the same;");
        FortyHouses x = withLaws("law 0 5;law 10 5 if abcdef else 0;");
        due("under all alone", x.best(2), 63);
        due("one each", x.best(3), 1);
        FortyHouses y = withLaws("law 5 5;".repeat(6));
        due("all alike", y.best(2), 0);
        due("one heap of six", y.best(3), 6);
        FortyHouses ends = withLaws("law 10 5;law 10 5;law 10 5;law 0 5;law 0 5;law 5 5;");
        due("a heap of ten tenths", ends.best(3), 3);
        due("a heap of no tenths", withLaws("law 10 5;law 0 5;law 0 5;").best(3), 2);
        FortyHouses z = withLaws("law 0 5;law 2 5;law 4 5;law 6 5;law 8 5;law 10 5;");
        due("none alike", z.best(3), 1);
        FortyHouses w = withLaws("law 5 0;law 5 10;");
        due("tenths of those without part none", w.best(3), 2);
        // By the greatest heap, not by how many heaps: 3 2 under none, 3 1 1 under a, 2 2 1 under b.
        FortyHouses v = withLaws("law 1 0;law 1 0;law 3 0 if b else 1;law 2 0 if a else 4;law 3 0 if b else 4;");
        due("by the greatest heap", v.best(2), 2);
        due("of two", v.best(3), 2);
        // The law that parts them under a can't be.
        FortyHouses u = withLaws("law 5 5;law 5 5;law 6 5 if a else 5;");
        u.span(0);
        u.house(10, 5, 5, 1);
        due("those that may be alone", u.best(1), 3);
        due("those that may be alone", u.best(3), 2);
        due("those that may be alone", u.best(2), 0);
    }

    private void leastSet() {
        term("of several sets the least.");
        due("one law: each set", withLaws("law 5 5 if a else 6;").best(2), 0);
        due("f, not more", withLaws("law 5 5;law 6 5 if f else 5;").best(2), 32);
        due("b or c", withLaws("law 5 5;law 6 5 if b else 5;law 7 5 if c else 5;").best(2), 2 + 4);
        due("a without b ahead of c", withLaws("law 6 5 if a else 5;law 6 5 if c else 5;").best(2), 1);
    }

    private void noneMayBe() {
        term("(NONE: none may be.)");
        FortyHouses x = new FortyHouses();
        due("next", x.best(2), NONE);
        due("heap", x.best(3), NONE);
        x.house(5, 1, 1, 1);
        due("houses alone", x.best(2), NONE);
        Check.type(x, "law 0 0;");
        x.laws();
        due("one may be", x.best(2), 0);
        x.laws();
        due("no law any more", x.best(2), NONE);
        due("no law any more", x.best(3), NONE);
    }

    private void tenths() {
        promise(15, "Tenths by a LAW under a set of CONDITIONS (0 .. 63): of those with the thing (what = 0), without (1).");
        FortyHouses x = withLaws("law 1 2 if abcdef else 3;law 4 5 if a else 6;");
        due("under none", x.tenths(0, 0, 0), 3);
        due("under all", x.tenths(0, 63, 0), 1);
        due("without, under none", x.tenths(0, 0, 1), 2);
        due("without, under all", x.tenths(0, 63, 1), 2);
        due("the last law", x.tenths(1, 62, 0), 6);
        promise(15, "BAD.");
        for (int wrong : new int[] {-1, 64, 65, MIN, MAX}) {
            due("conditions " + wrong, x.tenths(0, wrong, 0), BAD);
            due("conditions " + wrong, x.tenths(0, wrong, 1), BAD);
        }
        for (int wrong : new int[] {-1, 2, MIN, MAX}) {
            due("what " + wrong, x.tenths(0, 0, wrong), BAD);
        }
        for (int wrong : new int[] {-1, 2, 5, 6, MIN, MAX}) {
            due("law " + wrong, x.tenths(wrong, 0, 0), BAD);
        }
        due("no law yet", new FortyHouses().tenths(0, 0, 0), BAD);
        due("the sixth", withLaws("law 5 5;".repeat(6)).tenths(5, 0, 0), 5);
        due("no seventh", withLaws("law 5 5;".repeat(6)).tenths(6, 0, 0), BAD);
    }

    private void misfit() {
        promise(16, "MISFIT of a LAW.");
        FortyHouses x = withLaws("law 5 5;".repeat(5) + "law 5 4;");
        x.house(10, 5, 5, 0);
        due("the first", x.misfit(0), 0);
        due("the sixth", x.misfit(5), 10);
        promise(16, "BAD.");
        for (int wrong : new int[] {-1, 6, 7, MIN, MAX}) {
            due("law " + wrong, x.misfit(wrong), BAD);
        }
        due("no law yet", alike(1, 5, 1, 1).misfit(0), BAD);
        due("one law", withLaws("law 5 5;").misfit(1), BAD);
    }

    private void best() {
        promise(17, "BEST (what = 0; NONE), MAY BE as bits (1), NEXT (2; NONE), how many are in the greatest heap then "
            + "(3; NONE).");
        FortyHouses x = withLaws("law 9 5;law 5 5;law 6 5 if a else 5;law 5 5;");
        x.house(10, 5, 5, 0);
        due("best", x.best(0), 1);
        due("may be", x.best(1), 2 + 4 + 8);
        due("next", x.best(2), 1);
        due("heap", x.best(3), 2);
        FortyHouses none = new FortyHouses();
        due("no best", none.best(0), NONE);
        due("no bits", none.best(1), 0);
        due("no next", none.best(2), NONE);
        due("no heap", none.best(3), NONE);
        promise(17, "BAD.");
        for (int wrong : new int[] {-1, 4, MIN, MAX}) {
            due("what " + wrong, x.best(wrong), BAD);
            due("what " + wrong + " without laws", none.best(wrong), BAD);
        }
    }

    private void span() {
        promise(18, "SPAN becomes v: what it was.");
        FortyHouses x = new FortyHouses();
        due("at first", x.span(999), 20);
        due("most", x.span(0), 999);
        due("least", x.span(7), 0);
        due("to the same", x.span(7), 7);
        promise(18, "BAD.");
        for (int wrong : new int[] {-1, 1000, MIN, MAX}) {
            due("span " + wrong, x.span(wrong), BAD);
        }
        due("it stays", x.span(8), 7);
    }
}
