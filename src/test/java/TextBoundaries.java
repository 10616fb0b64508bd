/** Promises 12 to 14: the text, and where it is at fault. */
final class TextBoundaries extends Boundaries {
    private static final String SIX = "law 0 0;".repeat(6);

    TextBoundaries(Sentences sentences) {
        super(sentences);
    }

    @Override
    void run() {
        threeHundred();
        blanks();
        sixItems();
        endedItems();
        tenthsOfALaw();
        runs();
        words();
        numberSigns();
        cantStand();
        seventhLaw();
        beyondTen();
        noToken();
        noWord();
        aboveNinetyNine();
        zeroAhead();
        endsTooEarly();
        type();
        clear();
        laws();
        faultChangesNothing();
    }

    private static int read(String text) {
        return withText(text).laws();
    }

    private void reads(String text, int howMany) {
        due("'" + text + "'", read(text), howMany);
    }

    private void faultAt(String text, int place) {
        due("'" + text + "'", read(text), -10 - place);
    }

    private void threeHundred() {
        term("LAWS are a text (300 bytes at most), read byte by byte");
        reads(" ".repeat(292) + "law 5 5;", 1);
        reads("law 5 5;" + " ".repeat(292), 1);
        reads(" ".repeat(300), 0);
        faultAt(" ".repeat(299) + "x", 299);
        faultAt(" ".repeat(292) + "law 5 5 ", 300);
        faultAt("a".repeat(300), 0);
        faultAt("9".repeat(300), 0);
        faultAt(";".repeat(300), 0);
        FortyHouses x = withText(" ".repeat(293));
        due("eight more are one too many", x.type(0, 8), FULL);
        due("seven are not", x.type(0, 7), 300);
        due("one more is", x.type(0, 1), FULL);
        due("bytes then", x.count(5), 300);
    }

    private void blanks() {
        term("blanks (32) between TOKENS");
        reads("law 5 5;", 1);
        reads("   law   5   5   ;   law  5  5  if  a  else  5  ;   ", 2);
        reads("law 1 2;law 1 2 if a else 3;", 2);
        reads("law5 5if a else5;", 1);
        for (int sign : new int[] {0, 9, 10, 11, 12, 13, 31, 33, 127, 128, 160, 255}) {
            faultAt("law" + (char) sign + "5 5;", 3);
        }
        // What no blank parts is one token.
        faultAt("law 55;", 4);
        faultAt("law 5 5 if abelse 5;", 11);
        faultAt("lawlaw 5 5;", 0);
    }

    private void sixItems() {
        term("ITEMS, 6 at most,");
        reads("", 0);
        reads(SIX, 6);
        reads(SIX + "   ", 6);
        reads("law 0 0 if a else 0;".repeat(6), 6);
        faultAt(SIX + "law 0 0;", 48);
        faultAt("law 0 0 if a else 0;".repeat(7), 120);
    }

    private void endedItems() {
        term("each ended by ; :");
        faultAt("law 5 5", 7);
        faultAt("law 5 5 law 5 5;", 8);
        faultAt("law 5 5 if a else 5", 19);
        faultAt("law 5 5 if a else 5 law 5 5;", 20);
        faultAt("law 5 5;;", 8);
        faultAt(";", 0);
        faultAt(" ;", 1);
        faultAt(SIX + ";", 48);
        faultAt("law 0 0;".repeat(5) + "law 0 0", 47);
    }

    private void tenthsOfALaw() {
        term("law X Y (X tenths of those with the thing do it, Y of those without, 0 .. 10 each)");
        for (int t = 0; t <= 10; t++) {
            FortyHouses x = withText("law " + t + " 3;law 7 " + t + ";law 5 5 if a else " + t + ";");
            due("all three " + t, x.laws(), 3);
            due("x " + t, x.tenths(0, 0, 0), t);
            due("not y", x.tenths(0, 0, 1), 3);
            due("y " + t, x.tenths(1, 0, 1), t);
            due("not x", x.tenths(1, 0, 0), 7);
            due("z " + t, x.tenths(2, 0, 0), t);
        }
        faultAt("law 11 3;", 4);
        faultAt("law 3 11;", 6);
        faultAt("law 3 3 if a else 11;", 18);
        faultAt("law -1 3;", 4);
    }

    private void runs() {
        term("a run of a .. f, each once;");
        for (String run : new String[] {"a", "f", "abcdef", "fedcba", "fa"}) {
            reads("law 5 5 if " + run + " else 5;", 1);
        }
        for (String run : new String[] {"aa", "ff", "aba", "abcdefa", "abcdeff", "g", "ag", "ga", "z", "abcdefg"}) {
            faultAt("law 5 5 if " + run + " else 5;", 11);
        }
        // No run at all, and two of them.
        faultAt("law 5 5 if else 5;", 11);
        faultAt("law 5 5 if a b else 5;", 13);
        due("every one that is told is asked", withLaws("law 1 0 if fb else 2;").tenths(0, 2 + 32, 0), 1);
    }

    private void words() {
        term("TOKENS are words of letters a .. z (law, if, else; or a run of a .. f, each once)");
        for (int sign = 1; sign < 256; sign++) {
            boolean isRun = sign >= 'a' && sign <= 'f';
            // A blank more leaves else where a run is due.
            int due = isRun ? 1 : sign == ' ' ? -10 - 13 : -10 - 11;
            due("sign " + sign + " for a run", read("law 5 5 if " + (char) sign + " else 5;"), due);
        }
        for (String word : new String[] {"Law", "LAW", "laW", "l", "la", "laws", "klaw", "awl"}) {
            faultAt(word + " 5 5;", 0);
        }
    }

    private void numberSigns() {
        term(", NUMBERS and ; .");
        for (int sign = 1; sign < 256; sign++) {
            boolean isNumber = sign >= '0' && sign <= '9';
            int due = isNumber ? 1 : sign == ' ' ? -10 - 7 : -10 - 4;
            due("sign " + sign + " for a number", read("law " + (char) sign + " 5;"), due);
            int dueAtEnd = sign == ';' ? 1 : sign == ' ' ? -10 - 9 : -10 - 8;
            due("sign " + sign + " for an end", read("law 5 5 " + (char) sign), dueAtEnd);
        }
    }

    private void cantStand() {
        term("FAULT: the place of the first byte of the first TOKEN that can't stand there");
        String[] tokens = {"law", "5", "6", "if", "ab", "else", "7", ";"};
        String[] others = {"law", "5", "if", "ab", "else", ";"};
        StringBuilder ahead = new StringBuilder();
        for (int i = 0; i < tokens.length; i++) {
            for (String other : others) {
                boolean isNumber = Character.isDigit(tokens[i].charAt(0)) && other.equals("5");
                boolean endsItem = i == 3 && other.equals(";");
                if (!other.equals(tokens[i]) && !isNumber && !endsItem) {
                    faultAt(ahead + other + " else @ 100", ahead.length());
                }
            }
            ahead.append(tokens[i]).append("  ");
        }
        // The first of several, be it by its bytes or by its place.
        faultAt("law 5 law @", 6);
        faultAt("law 5 @ law", 6);
        faultAt("law 5 5;  if", 10);
    }

    private void seventhLaw() {
        term("(a seventh law,");
        faultAt(SIX + "law", 48);
        faultAt(SIX + "  law 5 5;", 50);
        faultAt(SIX + "laws", 48);
        faultAt(SIX + "5", 48);
        faultAt(SIX + "@", 48);
        faultAt("law 5 5;@" + SIX, 8);
    }

    private void beyondTen() {
        term("a NUMBER beyond 10, too)");
        reads("law 10 10 if a else 10;", 1);
        for (int number : new int[] {11, 12, 20, 50, 99}) {
            faultAt("law " + number + " 5;", 4);
            faultAt("law  5  " + number + ";", 8);
            faultAt("law 5 5 if a else " + number + ";", 18);
        }
    }

    private void noToken() {
        term("of a byte that begins none,");
        int[] signs = {0, 9, 10, '-', '+', '.', ',', ':', '/', '@', 'A', 'Z', '[', '`', '{', 127, 128, 225, 255};
        for (int sign : signs) {
            faultAt((char) sign + "law 5 5;", 0);
            faultAt("law 5" + (char) sign + " 5;", 5);
            faultAt("law 5 5 if a" + (char) sign + " else 5;", 12);
            faultAt("law 5 5; " + (char) sign, 9);
        }
    }

    private void noWord() {
        term("a word that is none,");
        for (String word : new String[] {"l", "la", "laws", "xlaw", "lawif", "z"}) {
            faultAt(" " + word + " 5 5;", 1);
        }
        for (char letter = 'a'; letter <= 'z'; letter++) {
            faultAt("law" + letter + " 5 5;", 0);
            faultAt(letter + "law 5 5;", 0);
            faultAt("law 5 5 if" + letter + " a else 5;", 8);
            faultAt("law 5 5 if a else" + letter + " 5;", 13);
        }
        // One letter is another.
        for (String word : new String[] {"xaw", "lxw", "lax"}) {
            faultAt(word + " 5 5;", 0);
        }
        for (String word : new String[] {"xf", "ix"}) {
            faultAt("law 5 5 " + word + " a else 5;", 8);
        }
        for (String word : new String[] {"xlse", "exse", "elxe", "elsx"}) {
            faultAt("law 5 5 if a " + word + " 5;", 13);
        }
        for (String word : new String[] {"i", "iff", "fi", "ifa", "ifelse"}) {
            faultAt("law 5 5 " + word + " a else 5;", 8);
        }
        for (String word : new String[] {"el", "els", "elsee", "aelse", "elsea"}) {
            faultAt("law 5 5 if a " + word + " 5;", 13);
        }
    }

    private void aboveNinetyNine() {
        term("a NUMBER above 99");
        // Behind the third come those that an int or a long would turn round to 5.
        String[] numbers = {"100", "101", "999", "4294967301", "18446744073709551621", "1" + "0".repeat(250)};
        for (String number : numbers) {
            faultAt("law " + number + " 5;", 4);
            faultAt("law 5 " + number + ";", 6);
            faultAt("law 5 5 if a else " + number + ";", 18);
        }
    }

    private void zeroAhead() {
        term("or with a 0 ahead of others, that TOKEN's");
        reads("law 0 0 if a else 0;", 1);
        reads("law 10 10;", 1);
        for (String number : new String[] {"00", "01", "05", "010", "000000000001"}) {
            faultAt("law " + number + " 5;", 4);
            faultAt("law 5 " + number + ";", 6);
            faultAt("law 5 5 if a else " + number + ";", 18);
        }
    }

    private void endsTooEarly() {
        term("the text's length, if it ends too early.");
        String text = "law 5 5 if ab else 10;";
        // Where it is cut within a word that word is at fault; "e" is a run where else is due.
        int[] want = {0, 0, 0, 3, 4, 5, 6, 7, 8, 8, 10, 11, 12, 13, 14, 14, 14, 14, 18, 19, 20, 21};
        for (int length = 1; length < text.length(); length++) {
            faultAt(text.substring(0, length), want[length]);
            faultAt("law 0 10;" + text.substring(0, length), 9 + want[length]);
        }
        reads("", 0);
        reads(text, 1);
        faultAt("law 5 5   ", 10);
        faultAt("law 0 0;".repeat(5) + "law 0 ", 46);
    }

    private void type() {
        promise(12, "The lowest n (1 .. 8) bytes of v, the highest of them first, come to THE TEXT: how many it has.");
        FortyHouses x = new FortyHouses();
        due("eight", x.type(0x6C61772031203220L, 8), 8);
        due("the lowest one", x.type(0x6C6177203120323BL, 1), 9);
        due("read", x.laws(), 1);
        due("the highest first", x.tenths(0, 0, 0), 1);
        due("the highest first", x.tenths(0, 0, 1), 2);
        due("seven of a number below 0", x.type(0x806C617720332034L, 7), 7);
        due("the lowest one", x.type(-0x100L + ';', 1), 8);
        due("read", x.laws(), 1);
        due("read", x.tenths(0, 0, 0), 3);
        due("a byte of 0 is a byte", x.type(0, 2), 2);
        due("it begins no token", x.laws(), -10);
        promise(12, "BAD; FULL.");
        for (int wrong : new int[] {0, 9, -1, MIN, MAX}) {
            due("bytes " + wrong, x.type(0, wrong), BAD);
        }
        due("nothing came", x.count(5), 2);
        FortyHouses full = withText(" ".repeat(300));
        due("one more", full.type(' ', 1), FULL);
        due("eight more", full.type(' ', 8), FULL);
        due("BAD ahead of FULL", full.type(' ', 0), BAD);
        due("BAD ahead of FULL", full.type(' ', 9), BAD);
        FortyHouses some = withText(" ".repeat(299));
        due("two are too many, and not even one comes", some.type(0x2020, 2), FULL);
        due("one is not", some.type(' ', 1), 300);
        due("blanks alone", some.laws(), 0);
    }

    private void clear() {
        promise(13, "THE TEXT is empty: how many bytes it had.");
        FortyHouses x = new FortyHouses();
        due("none", x.clear(), 0);
        x.type('x', 1);
        due("one", x.clear(), 1);
        due("none again", x.clear(), 0);
        Check.type(x, "x".repeat(300));
        due("all", x.clear(), 300);
        due("empty", x.count(5), 0);
        Check.type(x, "law 5 5;");
        due("what was there is not read", x.laws(), 1);
        due("the laws have emptied it", x.clear(), 0);
        due("laws stay", x.count(2), 1);
    }

    private void laws() {
        promise(14, "THE TEXT becomes LAWS, and is empty then: how many.");
        FortyHouses x = withText(SIX);
        due("six", x.laws(), 6);
        due("empty", x.count(5), 0);
        due("the sixth", x.tenths(5, 0, 0), 0);
        Check.type(x, "law 4 9;");
        due("one for six", x.laws(), 1);
        due("one", x.count(2), 1);
        due("the new one", x.tenths(0, 0, 0), 4);
        due("the second is gone", x.tenths(1, 0, 0), BAD);
        Check.type(x, "law 1 1 if a else 2;");
        due("with conditions", x.laws(), 1);
        Check.type(x, "law 7 8;");
        due("without", x.laws(), 1);
        due("what the earlier one asked is not asked", x.tenths(0, 0, 0), 7);
        Check.type(x, "law 6 8;");
        due("without again", x.laws(), 1);
        due("what the one before that asked is not asked", x.tenths(0, 0, 0), 6);
        due("an empty text: no laws", x.laws(), 0);
        due("none", x.count(2), 0);
        Check.type(x, "   ");
        due("blanks alone: no laws", x.laws(), 0);
        due("empty", x.count(5), 0);
    }

    private void faultChangesNothing() {
        promise(14, "-10 less FAULT: nothing changes.");
        FortyHouses x = withLaws("law 1 2 if a else 3;law 4 5;");
        Check.type(x, SIX);
        Check.type(x, "law 9 9;");
        due("the seventh", x.laws(), -58);
        due("the text stays", x.count(5), 56);
        due("the laws stay", x.count(2), 2);
        due("the first stays", x.tenths(0, 1, 0), 1);
        due("the first stays", x.tenths(0, 0, 0), 3);
        due("the second stays", x.tenths(1, 0, 1), 5);
        due("the same again", x.laws(), -58);
        due("no third", x.tenths(2, 0, 0), BAD);
        x.clear();
        Check.type(x, "law 8");
        due("too early", x.laws(), -15);
        Check.type(x, " 7;");
        due("what is typed then goes on", x.laws(), 1);
        due("read", x.tenths(0, 0, 0), 8);
        due("read", x.tenths(0, 0, 1), 7);
        due("no laws yet", withText("law").laws(), -13);
        due("least", withText("@").laws(), -10);
        due("most", withText(" ".repeat(297) + "law").laws(), -310);
    }
}
