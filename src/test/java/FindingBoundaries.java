/** Promises 21 to 25. */
final class FindingBoundaries extends Boundaries {
    FindingBoundaries(Sentences sentences) {
        super(sentences);
    }

    @Override
    void run() {
        sixteen();
        prices();
        marks();
        comes();
        off();
        right();
        leastCut();
        atLeastTheCut();
        earlier();
        eachButOnce();
        threeAtMost();
        roundByRound();
        mostBearing();
        finding();
        held();
        stands();
        falls();
        bears();
    }

    private static FortyHouses chain() {
        FortyHouses x = findings(16);
        for (int i = 1; i < 16; i++) {
            x.stands(i, i - 1);
        }
        return x;
    }

    private void sixteen() {
        term("FINDINGS 0 .. (16 at most, as they come)");
        FortyHouses x = new FortyHouses();
        for (int i = 0; i < 15; i++) {
            due("finding " + i, x.finding(i, 0, 0), i);
        }
        x.keep(0);
        due("the sixteenth", x.finding(15, 0, 0), 15);
        due("the seventeenth", x.finding(100, 0, 0), FULL);
        due("how many then", x.count(3), 16);
        due("as they came", x.held(0, 0), 1240);
        x.back(0);
        due("fifteen again: there is a place", x.finding(0, 0, 0), 15);
        due("full again", x.finding(0, 0, 0), FULL);
    }

    private void prices() {
        term("have a PRICE (0 .. 100)");
        FortyHouses x = new FortyHouses();
        for (int price : new int[] {-1, 101, MIN, MAX}) {
            due("price " + price, x.finding(price, 50, 1), BAD);
        }
        due("least", x.finding(0, 50, 0), 0);
        due("most", x.finding(100, 50, 0), 1);
        due("both count", x.held(0, 0), 10000);
    }

    private void marks() {
        term("a MARK of readers (0 .. 100)");
        FortyHouses x = new FortyHouses();
        for (int mark : new int[] {-1, 101, MIN, MAX}) {
            due("mark " + mark, x.finding(50, mark, 1), BAD);
        }
        due("least", x.finding(50, 0, 0), 0);
        due("most", x.finding(50, 100, 0), 1);
        due("both count", x.held(1, 0), 10000);
    }

    private void comes() {
        term("and COME (1) or not (0).");
        FortyHouses x = new FortyHouses();
        for (int comes : new int[] {-1, 2, MIN, MAX}) {
            due("comes " + comes, x.finding(50, 50, comes), BAD);
        }
        due("not", x.finding(50, 50, 0), 0);
        due("none came", x.count(4), 0);
        due("comes", x.finding(50, 50, 1), 1);
        due("one came", x.count(4), 1);
    }

    private void off() {
        term("OFF: of PRICES (0), MARKS (1): squares of how far they are from 100 times COME, added.");
        due("none", new FortyHouses().held(0, 0), 0);
        FortyHouses x = withFindings(new int[] {100, 0, 1});
        due("not off", x.held(0, 0), 0);
        due("all off", x.held(1, 0), 10000);
        x.finding(0, 100, 0);
        due("not off", x.held(0, 0), 0);
        due("all off", x.held(1, 0), 20000);
        x.finding(99, 1, 1);
        x.finding(1, 99, 0);
        due("by one", x.held(0, 0), 2);
        due("by ninety-nine", x.held(1, 0), 20000 + 2 * 9801);
        FortyHouses full = new FortyHouses();
        for (int i = 0; i < 16; i++) {
            full.finding(100 * (i % 2), 100 - 100 * (i % 2), 1 - i % 2);
        }
        due("most", full.held(0, 0), 160000);
        due("least", full.held(1, 0), 0);
    }

    private void right() {
        term("RIGHT: of all pairs of one that came and one that did not in how many the first has more "
            + "(twice counted; once, if as much).");
        due("none", new FortyHouses().held(0, 1), 0);
        due("none came", withFindings(new int[] {50, 50, 0}, new int[] {60, 60, 0}).held(0, 1), 0);
        due("all came", withFindings(new int[] {50, 50, 1}, new int[] {60, 60, 1}).held(0, 1), 0);
        FortyHouses x = withFindings(new int[] {51, 49, 1}, new int[] {50, 50, 0});
        due("more", x.held(0, 1), 2);
        due("less", x.held(1, 1), 0);
        FortyHouses y = withFindings(new int[] {50, 100, 0}, new int[] {50, 0, 1});
        due("as much, the one that came later", y.held(0, 1), 1);
        due("far less", y.held(1, 1), 0);
        FortyHouses full = new FortyHouses();
        for (int i = 0; i < 16; i++) {
            full.finding(i < 8 ? 100 : 0, 7, i < 8 ? 1 : 0);
        }
        due("most", full.held(0, 1), 128);
        due("all as much", full.held(1, 1), 64);
    }

    private void leastCut() {
        term("CUT: the least number 0 .. 101 by which most FINDINGS are right,");
        due("none", new FortyHouses().held(0, 2), 0);
        due("none right", new FortyHouses().held(0, 3), 0);
        due("all came", withFindings(new int[] {0, 50, 1}, new int[] {100, 50, 1}).held(0, 2), 0);
        due("none came", withFindings(new int[] {100, 50, 0}, new int[] {0, 50, 0}).held(0, 2), 101);
        due("none came, of no price", withFindings(new int[] {0, 50, 0}).held(0, 2), 1);
        FortyHouses x = withFindings(new int[] {30, 0, 1}, new int[] {60, 0, 0});
        // Up to 30 the first is right, above 60 the second.
        due("of several the least", x.held(0, 2), 0);
        due("one is right", x.held(0, 3), 1);
        x.finding(60, 0, 0);
        due("most at the upper end", x.held(0, 2), 61);
        due("two are right", x.held(0, 3), 2);
    }

    private void atLeastTheCut() {
        term("if those of it at least are said to come.");
        FortyHouses x = withFindings(new int[] {50, 99, 0}, new int[] {51, 100, 1});
        due("just the one that came", x.held(0, 2), 51);
        due("both are right", x.held(0, 3), 2);
        due("at the upper end", x.held(1, 2), 100);
        due("both are right", x.held(1, 3), 2);
        FortyHouses y = withFindings(new int[] {0, 100, 1}, new int[] {0, 100, 0}, new int[] {0, 100, 0});
        due("those of the same are said alike", y.held(0, 2), 1);
        due("two are right", y.held(0, 3), 2);
        due("none is of 101", y.held(1, 2), 101);
    }

    private void earlier() {
        term("STANDS: a FINDING stands on an earlier one");
        FortyHouses x = findings(16);
        due("the first on itself", x.stands(0, 0), BAD);
        due("the first on a later one", x.stands(0, 1), BAD);
        due("on itself", x.stands(7, 7), BAD);
        due("on the next", x.stands(7, 8), BAD);
        due("on the one ahead", x.stands(7, 6), 1);
        due("on the first", x.stands(7, 0), 2);
        due("the last on the one ahead", x.stands(15, 14), 1);
        due("the second on the first", x.stands(1, 0), 1);
    }

    private void eachButOnce() {
        term("(each but once;");
        FortyHouses x = findings(4);
        due("once", x.stands(3, 1), 1);
        due("twice", x.stands(3, 1), BAD);
        due("another", x.stands(3, 0), 2);
        due("another twice", x.stands(3, 0), BAD);
        due("the first twice", x.stands(3, 1), BAD);
        due("the same by another finding", x.stands(2, 1), 1);
        due("the third", x.stands(3, 2), 3);
    }

    private void threeAtMost() {
        term("3 at most).");
        FortyHouses x = findings(16);
        due("one", x.stands(15, 0), 1);
        due("two", x.stands(15, 1), 2);
        due("three", x.stands(15, 2), 3);
        due("four", x.stands(15, 3), FULL);
        due("it does not stand on that", x.falls(8, 0), 8);
        due("another finding has three places of its own", x.stands(14, 3), 1);
        due("more than three may stand on one", x.stands(13, 0), 1);
        due("more than three may stand on one", x.stands(12, 0), 1);
        due("more than three may stand on one", x.stands(11, 0), 1);
        due("all of these fall", x.falls(1, 0), 1 + (1 << 11) + (1 << 12) + (1 << 13) + (1 << 15));
    }

    private void roundByRound() {
        term("FALLS from a set: these, and round by round all that stand on one that is down;");
        FortyHouses x = findings(5);
        due("nothing stands on it", x.falls(1, 0), 1);
        due("no round", x.falls(1, 1), 0);
        x.stands(4, 3);
        x.stands(4, 1);
        x.stands(2, 0);
        x.stands(3, 2);
        due("one of two is enough", x.falls(2, 0), 2 + 16);
        due("one round", x.falls(2, 1), 1);
        due("one after another", x.falls(1, 0), 1 + 4 + 8 + 16);
        due("three rounds", x.falls(1, 1), 3);
        due("by the shorter way", x.falls(1 + 2, 1), 2);
        due("what it stands on does not fall", x.falls(16, 0), 16);
        due("the longest", chain().falls(1, 0), 65535);
        due("the longest", chain().falls(1, 1), 15);
        due("the longest but one", chain().falls(2, 1), 14);
    }

    private void mostBearing() {
        term("BEARS: the FINDING from which alone most fall, of several the first.");
        due("sixteen alone", findings(16).bears(), 0);
        due("a chain", chain().bears(), 0);
        FortyHouses x = findings(16);
        x.stands(15, 14);
        due("the last but one", x.bears(), 14);
        x.stands(13, 12);
        due("the first of two", x.bears(), 12);
        x.stands(15, 13);
        due("over another", x.bears(), 12);
        x.stands(11, 0);
        x.stands(11, 1);
        due("not by what stands on most", x.bears(), 12);
    }

    private void finding() {
        promise(21, "A FINDING: its number.");
        FortyHouses x = new FortyHouses();
        due("the first", x.finding(0, 0, 0), 0);
        due("one as the first", x.finding(0, 0, 0), 1);
        promise(21, "BAD; FULL.");
        due("a wrong one takes no number", x.finding(0, 0, 2), BAD);
        due("the next", x.finding(100, 100, 1), 2);
        FortyHouses full = findings(16);
        due("full", full.finding(0, 0, 0), FULL);
        due("BAD ahead of FULL, price", full.finding(101, 0, 0), BAD);
        due("BAD ahead of FULL, mark", full.finding(0, 101, 0), BAD);
        due("BAD ahead of FULL, comes", full.finding(0, 0, -1), BAD);
    }

    private void held() {
        promise(22, "Of PRICES (which = 0), MARKS (1): OFF (what = 0), RIGHT (1), CUT (2), how many are right by CUT (3).");
        FortyHouses x = withFindings(new int[] {90, 20, 1}, new int[] {10, 30, 0}, new int[] {10, 10, 0});
        int[][] want = {{300, 4, 11, 3}, {6400 + 900 + 100, 2, 11, 2}};
        for (int which = 0; which < 2; which++) {
            for (int what = 0; what < 4; what++) {
                due("held(" + which + ", " + what + ")", x.held(which, what), want[which][what]);
            }
        }
        promise(22, "BAD.");
        for (int wrong : new int[] {-1, 2, MIN, MAX}) {
            due("which " + wrong, x.held(wrong, 0), BAD);
        }
        for (int wrong : new int[] {-1, 4, MIN, MAX}) {
            due("what " + wrong, x.held(0, wrong), BAD);
            due("what " + wrong + " without findings", new FortyHouses().held(1, wrong), BAD);
        }
    }

    private void stands() {
        promise(23, "A FINDING stands on an earlier one: on how many.");
        FortyHouses x = findings(15);
        due("one", x.stands(14, 13), 1);
        due("two", x.stands(14, 0), 2);
        due("three", x.stands(14, 7), 3);
        promise(23, "BAD: on that already, too; FULL: 3.");
        due("a fourth", x.stands(14, 1), FULL);
        due("BAD ahead of FULL: on that already", x.stands(14, 0), BAD);
        due("BAD ahead of FULL: on itself", x.stands(14, 14), BAD);
        due("BAD ahead of FULL: below", x.stands(14, -1), BAD);
        for (int wrong : new int[] {-1, 15, 16, 31, 32, MIN, MAX}) {
            due("finding " + wrong, x.stands(wrong, 0), BAD);
            due("on " + wrong, x.stands(13, wrong), BAD);
        }
        due("both below", x.stands(-1, -2), BAD);
        due("no finding yet", new FortyHouses().stands(0, 0), BAD);
        due("no finding yet", new FortyHouses().stands(1, 0), BAD);
        due("nothing came of those", x.falls(1 << 13, 0), (1 << 13) + (1 << 14));
    }

    private void falls() {
        promise(24, "FALLS from a set (bits; those that are not there left out)");
        FortyHouses x = findings(3);
        due("no bit", x.falls(0, 0), 0);
        due("all bits", x.falls(-1, 0), 7);
        due("the highest bit", x.falls(MIN, 0), 0);
        due("one there, one not", x.falls(4 + 8, 0), 4);
        due("the sixteenth", findings(16).falls(1 << 15, 0), 1 << 15);
        due("no seventeenth", findings(16).falls(1 << 16, 0), 0);
        due("all of sixteen", findings(16).falls(-1, 0), 65535);
        due("none there", new FortyHouses().falls(-1, 0), 0);
        due("none there", new FortyHouses().falls(-1, 1), 0);
        promise(24, ": who is down (what = 0), rounds in which some fell (1).");
        x.stands(1, 0);
        x.stands(2, 1);
        due("down", x.falls(1, 0), 7);
        due("rounds", x.falls(1, 1), 2);
        due("all at once: no round", x.falls(7, 1), 0);
        due("none: no round", x.falls(0, 1), 0);
        due("none that is there: no round", x.falls(8, 1), 0);
        promise(24, "BAD.");
        for (int wrong : new int[] {-1, 2, MIN, MAX}) {
            due("what " + wrong, x.falls(1, wrong), BAD);
            due("what " + wrong + " of none", new FortyHouses().falls(0, wrong), BAD);
        }
    }

    private void bears() {
        promise(25, "BEARS; NONE.");
        FortyHouses x = new FortyHouses();
        due("no finding", x.bears(), NONE);
        x.keep(0);
        x.finding(0, 0, 0);
        due("one", x.bears(), 0);
        x.back(0);
        due("no finding again", x.bears(), NONE);
    }
}
