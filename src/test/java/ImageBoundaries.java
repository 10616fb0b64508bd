/** Promises 1 and 27 to 29: a new object, images and counts. */
final class ImageBoundaries extends Boundaries {
    ImageBoundaries(Sentences sentences) {
        super(sentences);
    }

    @Override
    void run() {
        newObject();
        whatIsKept();
        rowsOfItsOwn();
        whatIsNot();
        keep();
        back();
        count();
        constants();
    }

    private void newObject() {
        promise(1, "As told.");
        FortyHouses x = new FortyHouses();
        for (int what = 0; what <= 5; what++) {
            due("count(" + what + ")", x.count(what), 0);
        }
        due("trace", x.trace(), 0);
        due("image 0", x.back(0), STATE);
        due("image 1", x.back(1), STATE);
        due("span", x.span(20), 20);
        due("no house", x.about(0, 0), BAD);
        due("no law", x.tenths(0, 0, 0), BAD);
        due("no finding", x.stands(1, 0), BAD);
        FortyHouses other = alike(12, 5, 1, 1);
        other.keep(0);
        other.weight(0, 0);
        due("another object is another's", new FortyHouses().count(0), 0);
        due("another object is another's", new FortyHouses().back(0), STATE);
        due("another object is another's", new FortyHouses().trace(), 0);
    }

    private void whatIsKept() {
        term("IMAGES 0, 1 keep HOUSES and FINDINGS;");
        FortyHouses x = withHouses(new int[] {5, 1, 2, 3});
        x.finding(10, 20, 1);
        x.finding(30, 40, 0);
        x.finding(50, 60, 0);
        x.stands(2, 1);
        x.keep(0);
        x.mend(0, 5, 5);
        x.house(12, 1, 2, 63);
        x.stands(2, 0);
        x.stands(1, 0);
        x.finding(100, 100, 1);
        x.stands(3, 0);
        x.keep(1);
        due("the first", x.back(0), 4);
        due("a", x.about(0, 1), 1);
        due("b", x.about(0, 2), 2);
        due("n", x.about(0, 0), 5);
        due("conditions", x.about(0, 3), 3);
        due("no second house", x.about(1, 0), BAD);
        due("prices", x.held(0, 0), 8100 + 900 + 2500);
        due("marks", x.held(1, 0), 6400 + 1600 + 3600);
        due("what came", x.count(4), 1);
        due("on what they stand", x.falls(1, 0), 1);
        due("on what they stand", x.falls(2, 0), 6);
        due("a place for a third and fourth", x.stands(2, 0), 2);
        x.finding(0, 0, 0);
        due("one that comes anew stands on nothing", x.falls(1, 0), 1 + 4);
        due("the second", x.back(1), 6);
        due("mended", x.about(0, 1), 5);
        due("the second house", x.about(1, 3), 63);
        due("on what they stand", x.falls(1, 0), 15);
        due("the first as it was", x.back(0), 4);
        due("the first as it was", x.falls(1, 0), 1);
    }

    /** Two images that have nothing in common, brought back in turn. */
    private void rowsOfItsOwn() {
        term("IMAGES 0, 1 keep HOUSES and FINDINGS;");
        FortyHouses x = new FortyHouses();
        x.keep(1);
        fill(x, 1);
        x.keep(0);
        x.back(1);
        fill(x, 2);
        x.keep(1);
        for (int turn = 0; turn < 4; turn++) {
            int image = turn % 2;
            FortyHouses want = new FortyHouses();
            fill(want, image + 1);
            due("turn " + turn, x.back(image), 28);
            for (int i = 0; i < 12; i++) {
                for (int what = 0; what < 4; what++) {
                    due("house " + i + " in turn " + turn, x.about(i, what), want.about(i, what));
                }
            }
            for (int what = 0; what < 8; what++) {
                due("findings in turn " + turn, x.held(what / 4, what % 4), want.held(what / 4, what % 4));
            }
            due("those that came in turn " + turn, x.count(4), 8 * image);
            due("what falls in turn " + turn, x.falls(1, 0), image == 0 ? 3 : 5);
        }
    }

    private static void fill(FortyHouses x, int step) {
        for (int i = 0; i < 12; i++) {
            x.house(8 + step, i % 5 + step, 5 - step, i * step);
        }
        for (int i = 0; i < 16; i++) {
            x.finding(i * step, 100 - i * step, (step - 1) * (i % 2));
        }
        x.stands(step, 0);
    }

    private void whatIsNot() {
        term("nothing else.");
        FortyHouses x = withLaws("law 1 1;law 2 2;");
        x.house(5, 1, 1, 0);
        x.keep(0);
        x.span(7);
        x.weight(0, 0);
        Check.type(x, "law 3 3;");
        x.laws();
        Check.type(x, "law 4 4;");
        x.back(0);
        due("laws", x.count(2), 1);
        due("laws", x.tenths(0, 0, 0), 3);
        due("trace", x.trace(), 1);
        due("span", x.span(7), 7);
        due("text", x.count(5), 8);
        due("text", x.laws(), 1);
        due("text", x.tenths(0, 0, 0), 4);
        x.keep(1);
        due("one image is not in the other", x.back(0), 1);
        due("one image is not in the other", x.back(1), 1);
    }

    private void keep() {
        promise(27, "An IMAGE is kept: HOUSES and FINDINGS together.");
        FortyHouses x = new FortyHouses();
        due("nothing", x.keep(0), 0);
        x.house(5, 1, 1, 0);
        due("a house", x.keep(0), 1);
        x.finding(1, 1, 1);
        due("and a finding", x.keep(1), 2);
        due("what is there stays", x.count(0), 1);
        due("the one that was kept last", x.back(0), 1);
        due("the one that was kept last", x.count(3), 0);
        FortyHouses full = findings(16);
        for (int i = 0; i < 12; i++) {
            full.house(12, i, 0, i);
        }
        due("all", full.keep(1), 28);
        promise(27, "BAD.");
        for (int wrong : new int[] {-1, 2, MIN, MAX}) {
            due("image " + wrong, x.keep(wrong), BAD);
        }
        FortyHouses none = new FortyHouses();
        none.keep(2);
        none.keep(-1);
        due("none is kept by these", none.back(0), STATE);
        due("none is kept by these", none.back(1), STATE);
    }

    private void back() {
        promise(28, "All of that becomes as an IMAGE has it: HOUSES and FINDINGS together.");
        FortyHouses x = new FortyHouses();
        x.keep(0);
        for (int i = 0; i < 16; i++) {
            x.house(12, i % 12, 0, i);
            x.finding(i, i, 0);
        }
        x.keep(1);
        due("none", x.back(0), 0);
        due("no house", x.count(0), 0);
        due("no finding", x.count(3), 0);
        due("all", x.back(1), 28);
        due("the twelfth house", x.about(11, 3), 11);
        due("the sixteenth finding", x.falls(1 << 15, 0), 1 << 15);
        due("once more", x.back(1), 28);
        x.mend(0, 12, 12);
        due("an image is no part of what is there", x.back(1), 28);
        due("an image is no part of what is there", x.about(0, 1), 0);
        promise(28, "BAD; STATE: none was kept.");
        FortyHouses y = alike(2, 5, 1, 1);
        for (int wrong : new int[] {-1, 2, MIN, MAX}) {
            due("BAD ahead of STATE, image " + wrong, y.back(wrong), BAD);
        }
        due("none was kept", y.back(0), STATE);
        due("none was kept", y.back(1), STATE);
        due("what is there stays", y.count(0), 2);
        y.keep(1);
        due("the other was kept", y.back(0), STATE);
        due("this one was", y.back(1), 2);
        y.keep(0);
        due("now both", y.back(0), 2);
    }

    private void count() {
        promise(29, "0 HOUSES, 1 people of all, 2 LAWS, 3 FINDINGS, 4 those that came, 5 bytes of THE TEXT.");
        FortyHouses full = withLaws("law 5 5;".repeat(6));
        for (int i = 0; i < 16; i++) {
            full.house(12, 0, 0, 0);
            full.finding(50, 50, 1);
        }
        Check.type(full, " ".repeat(300));
        int[] most = {12, 288, 6, 16, 16, 300};
        FortyHouses one = withLaws("law 5 5;");
        one.house(1, 0, 0, 0);
        one.finding(50, 50, 0);
        one.type(0, 1);
        int[] least = {1, 2, 1, 1, 0, 1};
        for (int what = 0; what <= 5; what++) {
            due("most of " + what, full.count(what), most[what]);
            due("none of " + what, new FortyHouses().count(what), 0);
            due("one of " + what, one.count(what), least[what]);
        }
        promise(29, "BAD.");
        for (int wrong : new int[] {-1, 6, MIN, MAX}) {
            due("what " + wrong, full.count(wrong), BAD);
        }
    }

    private void constants() {
        term("The constants: `NO = -1000000`: What none is, where a number may be below 0.");
        due("NO", FortyHouses.NO, -1000000);
        due("none of more", new FortyHouses().more(-1, 0), -1000000);
        due("none of between", new FortyHouses().between(0, 0), -1000000);
        due("BAD", FortyHouses.BAD, -1);
        due("STATE", FortyHouses.STATE, -2);
        due("FULL", FortyHouses.FULL, -3);
        due("NONE", FortyHouses.NONE, -9);
        // Numbers that other calls would have for a refusal.
        FortyHouses x = withHouses(new int[] {1, 0, 1, 1}, new int[] {1, 1, 0, 0}, new int[] {11, 0, 9, 0});
        due("a number of -1", x.more(1, 0), -1);
        due("a number of -9", x.more(4, 0), -9);
        due("a number of -2", withHouses(new int[] {1, 0, 1, 1}, new int[] {1, 1, 0, 0}).between(0, 0), -2);
    }
}
