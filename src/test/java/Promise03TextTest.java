/** Promise 3: a LAND's TEXT and its FAULTS. */
public final class Promise03TextTest {
    private static final String WALL = "level 1 2 3;";
    private static final String BARN = "barn 1 2;";
    private static final String WOOD = "wood 1 1 2 2 1 1 1;";

    public static void main(String[] args) {
        places();
        losses();
        years();
        takes();
        hearsAndAir();
        manyWalls();
        manyBarns();
        manyWoods();
        fullText();
        words();
        digits();
        blanks();
        noTokens();
        lines();
        unfitTokens();
        endsTooSoon();
        toAndFrom();
        woodCorners();
        told();
        firstAlongTheText();
        leastOfOneToken();
        Check.end();
    }

    private static void dueText(String text, int fault, int place) {
        ClapValley valley = new ClapValley();
        Check.due("text \"" + text + "\"", fault, Check.tell(valley, 3, text));
        Check.due("fault() of \"" + text + "\"", place, valley.fault());
        Check.due("count(3) of \"" + text + "\"", fault == 0 ? 0 : 1, valley.count(3));
    }

    private static void dueGood(String text) {
        dueText(text, 0, -1);
    }

    /** In the text, # is a NUMBER that may be from least to most. */
    private static void dueNumber(String text, int least, int most) {
        int place = text.indexOf('#');
        dueGood(text.replace("#", Integer.toString(least)));
        dueGood(text.replace("#", Integer.toString(most)));
        dueText(text.replace("#", Integer.toString(most + 1)), 2, place);
        dueText(text.replace("#", "9999"), 2, place);
        dueText(text.replace("#", "10000"), 2, place);
        dueText(text.replace("#", "0000" + least), 2, place);
        dueText(text.replace("#", "-1"), 1, place);
        dueText(text.replace("#", "x"), 1, place);
        dueText(text.replace("#", ";"), 1, place);
        if (least > 0) {
            dueText(text.replace("#", Integer.toString(least - 1)), 2, place);
            dueText(text.replace("#", "0"), 2, place);
        }
    }

    private static void places() {
        Check.sentence("PLACES are x and y (0 to 40 both).");
        dueNumber("upright # 0 40;", 0, 40);
        dueNumber("upright 5 # 40;", 0, 39, 40);
        dueNumber("level # 0 40;", 0, 40);
        dueNumber("level 5 # 40;", 0, 39, 40);
        dueText("upright 5 0 41;", 2, 12);
        dueGood("upright 5 0 40;");
        dueText("level 5 0 41;", 2, 10);
        dueGood("level 5 0 40;");
        dueNumber("barn # 7;", 0, 40);
        dueNumber("barn 7 #;", 0, 40);
        dueNumber("wood # 0 40 40 1 1 1;", 0, 40);
        dueNumber("wood 0 # 40 40 1 1 1;", 0, 40);
        dueNumber("wood 0 0 # 40 1 1 1;", 0, 40);
        dueNumber("wood 0 0 40 # 1 1 1;", 0, 40);
    }

    /** A FROM: the last that a TO can be greater than, and the last that is a PLACE's at all. */
    private static void dueNumber(String text, int least, int last, int most) {
        int place = text.indexOf('#');
        dueGood(text.replace("#", Integer.toString(least)));
        dueGood(text.replace("#", Integer.toString(last)));
        dueText(text.replace("#", Integer.toString(most)), 3, place + 3);
        dueText(text.replace("#", Integer.toString(most + 1)), 2, place);
        dueText(text.replace("#", "00000"), 2, place);
    }

    private static void losses() {
        Check.sentence("a LOSS (0 to 100)");
        dueNumber("upright 5 0 10 loss #;", 0, 100);
        dueNumber("level 5 0 10 loss #;", 0, 100);
        dueNumber("barn 5 5 loss #;", 0, 100);
        dueNumber("barn 5 5 loss # years 0 99;", 0, 100);
    }

    private static void years() {
        Check.sentence("from a year to a year (0 to 99; always, if it isn't told)");
        dueNumber("barn 5 5 years # 99;", 0, 99);
        dueNumber("barn 5 5 years 0 #;", 0, 99);
        ClapValley valley = Check.valleyOf("barn 0 5;barn 0 6 years 0 99;barn 0 7 years 0 0;barn 0 8 years 99 99;");
        Check.dueRow(valley, 0, 0, 0, 0, 0, 10, 12, 14);
        Check.dueRow(valley, 0, 0, 0, 1, 0, 10, 12);
        Check.dueRow(valley, 0, 0, 0, 98, 0, 10, 12);
        Check.dueRow(valley, 0, 0, 0, 99, 0, 10, 12, 16);
    }

    private static void takes() {
        Check.sentence("what they TAKE of TONES 0, 1, 2 (0 to 100 each)");
        dueNumber("wood 1 1 2 2 # 1 1;", 0, 100);
        dueNumber("wood 1 1 2 2 1 # 1;", 0, 100);
        dueNumber("wood 1 1 2 2 1 1 #;", 0, 100);
    }

    private static void hearsAndAir() {
        Check.sentence("HEARS (0 to 1000; 100 at first), AIR (50 to 150; 100 at first).");
        dueNumber("hears #;", 0, 1000);
        dueNumber("air #;", 50, 150);
        ClapValley valley = Check.valleyOf("hears 0;");
        Check.dueAbout(valley, 0, 0, 0, 0, 0, 100);
        Check.tell(valley, 0, "air 50;");
        Check.dueAbout(valley, 0, 0, 0, 0, 100, 50);
        Check.tell(valley, 0, "air 150;hears 1000;");
        Check.dueAbout(valley, 0, 0, 0, 0, 1000, 150);
    }

    private static void manyWalls() {
        Check.sentence("the first TOKEN of the 7th WALL");
        String upright = "upright 5 0 9;";
        dueGood(WALL.repeat(6));
        dueGood(upright.repeat(6));
        dueGood(upright.repeat(3) + WALL.repeat(3));
        Check.dueAbout(Check.valleyOf(upright.repeat(3) + WALL.repeat(3)), 0, 6, 0, 0, 100, 100);
        dueText(WALL.repeat(6) + WALL, 2, 72);
        dueText(WALL.repeat(6) + upright, 2, 72);
        dueText(upright.repeat(6) + "\n" + WALL, 2, 85);
        dueText(upright.repeat(3) + BARN + WALL.repeat(3) + " upright", 2, 88);
        // Whatever comes behind it.
        dueText(WALL.repeat(6) + "level", 2, 72);
        dueText(WALL.repeat(6) + "level x", 2, 72);
        dueText(WALL.repeat(6) + "upright 41 0 9;", 2, 72);
        // It isn't its first token.
        dueText(WALL.repeat(6) + "levels 1 2 3;", 1, 72);
    }

    private static void manyBarns() {
        Check.sentence("the 7th BARN");
        dueGood(BARN.repeat(6));
        Check.dueAbout(Check.valleyOf(BARN.repeat(6)), 0, 0, 6, 0, 100, 100);
        dueText(BARN.repeat(6) + BARN, 2, 54);
        dueText(BARN.repeat(6) + " barn", 2, 55);
        dueText(BARN.repeat(6) + WALL + "barn ;", 2, 66);
    }

    private static void manyWoods() {
        Check.sentence("the 5th WOOD");
        dueGood(WOOD.repeat(4));
        Check.dueAbout(Check.valleyOf(WOOD.repeat(4)), 0, 0, 0, 4, 100, 100);
        dueText(WOOD.repeat(4) + WOOD, 2, 76);
        dueText(WOOD.repeat(4) + " wood", 2, 77);
        dueText(WOOD.repeat(4) + "wood 9 9 0 0 0 0 0;", 2, 76);
    }

    private static void fullText() {
        Check.sentence("A TEXT of at most 700 bytes tells it.");
        String full = "upright 40 10 40 loss 100;".repeat(6) + "barn 40 40 loss 100 years 10 99;".repeat(6)
                + "wood 10 10 40 40 100 100 100;".repeat(4) + "hears 1000;air 150;";
        ClapValley valley = Check.valleyOf(full);
        Check.dueAbout(valley, 0, 6, 6, 4, 1000, 150);
        String text = full + " ".repeat(700 - full.length());
        Check.due("700 bytes", 0, Check.tell(valley, 1, text));
        Check.dueAbout(valley, 1, 6, 6, 4, 1000, 150);
        dueText(full + " ".repeat(699 - full.length()) + "x", 1, 699);
        dueText(full + " ".repeat(697 - full.length()) + "air", 4, 697);
        dueText("air 100" + " ".repeat(693), 1, 700);
        dueText(" ".repeat(693) + "air 100", 1, 700);
        dueGood(" ".repeat(692) + "air 100;");
        dueText("a".repeat(700), 1, 0);
        dueText("1".repeat(700), 1, 0);
        dueText("air " + "1".repeat(696), 2, 4);
    }

    private static void words() {
        Check.sentence("words (a .. z, the longest row)");
        for (String word : new String[] {"upright", "level", "barn", "wood", "hears", "air"}) {
            dueText(word.substring(0, word.length() - 1), 1, 0);
            dueText(word.substring(1), 1, 0);
            dueText(word + "a", 1, 0);
            dueText(word + "z 5 5 5;", 1, 0);
            dueText("a" + word + " 5;", 1, 0);
            dueText(word + word, 1, 0);
            dueText(word, 1, word.length());
            dueText(word + "`", 1, word.length());
            dueText(word + "{", 1, word.length());
            dueText(word.toUpperCase(), 1, 0);
            dueText(word.substring(0, 2) + " " + word.substring(2), 1, 0);
        }
        dueText("upright 5 0 9 los 5;", 1, 14);
        dueText("upright 5 0 9 losss 5;", 1, 14);
        dueText("barn 5 5 year 5 6;", 1, 9);
        dueText("barn 5 5 yearss 5 6;", 1, 9);
        dueText("barn 5 5 lossyears 5 6;", 1, 9);
    }

    private static void digits() {
        Check.sentence("NUMBERS (1 to 4 digits)");
        dueGood("upright 5 0 9;");
        dueGood("upright 05 00 09;");
        dueGood("upright 0005 0000 0009;");
        dueText("upright 00005 0000 0009;", 2, 8);
        dueText("upright 0005 00000 0009;", 2, 13);
        dueText("upright 0005 0000 00009;", 2, 18);
        dueText("upright 99999999999999999999 0 9;", 2, 8);
        // 4294967301 is 5 and the 32nd power of two.
        dueText("upright 4294967301 0 9;", 2, 8);
        dueText("upright 000004018520069 0 9;", 2, 8);
        dueText("upright 5 0/9;", 1, 11);
        dueText("upright 5 0:9;", 1, 11);
        dueGood("hears 0999;");
        dueText("hears 09999;", 2, 6);
        ClapValley valley = Check.valleyOf("hears 0089;air 0123;");
        Check.dueAbout(valley, 0, 0, 0, 0, 89, 123);
    }

    private static void blanks() {
        Check.sentence("blanks (32, 10) between them, which count for nothing");
        dueGood(" ");
        dueGood("\n");
        dueGood(" \n \n\n  ");
        dueGood("\nupright\n5\n0\n10\n;\n");
        dueGood("  upright  5  0  10  ;  ");
        dueGood("upright5 0 10loss50;level0 0 40;barn5 6years5 6;air99;");
        dueText("upright50 10;", 2, 7);
        dueText("upright 5 0 1 0;", 1, 14);
        dueText("air 9 9;", 2, 4);
        dueText("air 99 9;", 1, 7);
        dueText("level 1 2 3;;", 1, 12);
        dueText("level 1 2 3 ; ;", 1, 14);
    }

    private static void noTokens() {
        Check.sentence("1 a TOKEN that can't stand there, or is none");
        for (int sign = 0; sign < 256; sign++) {
            boolean blank = sign == 32 || sign == 10;
            boolean word = sign >= 'a' && sign <= 'z';
            boolean digit = sign >= '0' && sign <= '9';
            String one = Character.toString((char) sign);
            // In front of the text, behind its first word, in front of its ';' and behind the text.
            dueText(one + "air 70;", blank ? 0 : 1, blank ? -1 : 0);
            dueText("air" + one + "970;", blank || digit ? 2 : 1, blank ? 4 : word ? 0 : 3);
            dueText("air 70" + one + ";", blank ? 0 : digit ? 2 : 1, blank ? -1 : digit ? 4 : sign == ';' ? 7 : 6);
            dueText("air 70;" + one, blank ? 0 : 1, blank ? -1 : 7);
        }
    }

    private static void lines() {
        Check.sentence("LAND: LINE*.");
        dueGood("");
        Check.dueAbout(Check.valleyOf(""), 0, 0, 0, 0, 100, 100);
        dueGood("air 70;");
        dueGood("air 70;hears 7;");
        dueGood("hears 7;" + WOOD + BARN + WALL + "air 70;" + BARN + WALL);
        dueText(";", 1, 0);
        dueText("7;", 1, 0);
        dueText("loss 7;", 1, 0);
        dueText("years 7 8;", 1, 0);
        dueText("air 70", 1, 6);
        dueText("air 70 hears 7;", 1, 7);
    }

    private static void unfitTokens() {
        Check.sentence("1 a TOKEN that can't stand there");
        dueText("upright;", 1, 7);
        dueText("upright 5;", 1, 9);
        dueText("upright 5 0;", 1, 11);
        dueText("upright 5 loss 3;", 1, 10);
        dueText("upright 5 0 10 loss;", 1, 19);
        dueText("upright 5 0 10 loss 5 5;", 1, 22);
        dueText("upright 5 0 10 loss 5 loss 5;", 1, 22);
        dueText("upright 5 0 10 years 1 2;", 1, 15);
        dueText("level 5 0 10 years 1 2;", 1, 13);
        dueText("upright 5 0 10 11;", 1, 15);
        dueText("upright 5 0 10 55555;", 1, 15);
        dueText("barn 5;", 1, 6);
        dueText("barn 5 6 7;", 1, 9);
        dueText("barn 5 6 loss 4 loss 4;", 1, 16);
        dueText("barn 5 6 years 5 5 loss 4;", 1, 19);
        dueText("barn 5 6 years 5 5 years 5 5;", 1, 19);
        dueText("barn 5 6 years 5;", 1, 16);
        dueText("barn 5 6 years;", 1, 14);
        dueText("wood 5 6 5 6 1 2;", 1, 16);
        dueText("wood 5 6 5 6 1 2 3 4;", 1, 19);
        dueText("wood 5 6 5 6 1 2 3 loss 4;", 1, 19);
        dueText("hears;", 1, 5);
        dueText("hears 7 8;", 1, 8);
        dueText("air hears 7;", 1, 4);
    }

    private static void endsTooSoon() {
        Check.sentence("(the text's length where it ends too soon)");
        String[] lines = {"upright 5 0 10 loss 50;", "level 5 0 10 loss 50;", "barn 5 6 loss 7 years 8 9;",
            "wood 1 2 3 4 5 6 7;", "hears 7;", "air 70;"};
        for (String line : lines) {
            for (int at = 1; at < line.length(); at++) {
                String part = line.substring(0, at);
                boolean wordIsCut = Character.isLetter(line.charAt(at - 1)) && Character.isLetter(line.charAt(at));
                if (!wordIsCut && !part.equals("air 7")) {
                    dueText(part, 1, at);
                    dueText(BARN + part, 1, 9 + at);
                    dueText(part + "  \n", 1, at + 3);
                }
            }
        }
    }

    private static void toAndFrom() {
        Check.sentence("3 a TO that isn't greater than its FROM (of 'years': that is less)");
        for (String word : new String[] {"upright", "level"}) {
            int at = word.length() + 3;
            dueGood(word + " 5 10 11;");
            dueText(word + " 5 10 10;", 3, at + 3);
            dueText(word + " 5 10 9;", 3, at + 3);
            dueText(word + " 5 10 0;x", 3, at + 3);
            dueGood(word + " 5 0 1;");
            dueText(word + " 5 0 0;", 3, at + 2);
            dueGood(word + " 5 39 40;");
            dueText(word + " 5 40 40;", 3, at + 3);
        }
        dueGood("barn 5 6 years 5 6;");
        dueGood("barn 5 6 years 5 5;");
        dueText("barn 5 6 years 5 4;", 3, 17);
        dueGood("barn 5 6 years 0 0;");
        dueGood("barn 5 6 years 99 99;");
        dueText("barn 5 6 years 99 98;", 3, 18);
        dueText("barn 5 6 years 1 0;", 3, 17);
    }

    private static void woodCorners() {
        Check.sentence("the second X or Y of a WOOD that is less than the first");
        dueGood("wood 5 6 6 7 1 2 3;");
        dueGood("wood 5 6 5 6 1 2 3;");
        dueText("wood 5 6 4 6 1 2 3;", 3, 9);
        dueText("wood 5 6 5 5 1 2 3;", 3, 11);
        dueText("wood 5 6 4 5 1 2 3;", 3, 9);
        dueGood("wood 0 0 0 0 0 0 0;");
        dueGood("wood 40 40 40 40 0 0 0;");
        dueText("wood 40 0 39 0 0 0 0;", 3, 10);
        dueText("wood 0 40 0 39 0 0 0;", 3, 12);
        // X is measured by X and Y by Y.
        dueGood("wood 5 20 6 21 0 0 0;");
        dueGood("wood 20 5 21 6 0 0 0;");
    }

    private static void told() {
        Check.sentence("4 a second 'hears', 'air'");
        dueText("hears 0;hears 0;", 4, 8);
        dueText("hears 100; hears 100;", 4, 11);
        dueText("hears 0;air 100;hears", 4, 16);
        dueText("air 70;\nair 70;", 4, 8);
        dueText("air 100;air 100;", 4, 8);
        dueText("air 70;air x", 4, 7);
        dueText("air 70;airs 70;", 1, 7);
        dueGood("air 70;hears 70;");
        // The next text begins anew.
        ClapValley valley = Check.valleyOf("air 70;hears 70;");
        Check.due("once more", 0, Check.tell(valley, 0, "air 71;hears 71;"));
        Check.due("once more, faulty", 4, Check.tell(valley, 0, "air 71;hears 71;air 72;"));
        Check.due("once more, good", 0, Check.tell(valley, 1, "hears 72;air 72;"));
    }

    private static void firstAlongTheText() {
        Check.sentence("FAULTS, the first along the text, at a TOKEN's first byte");
        dueText("air 49;x", 2, 4);
        dueText("x;air 49;", 1, 0);
        dueText("air 70;x;air 70;", 1, 7);
        dueText("air 70;air 70;x", 4, 7);
        dueText("upright 41 9 9;", 2, 8);
        dueText("upright 5 9 9 loss 101;", 3, 12);
        dueText("wood 5 5 4 4 101 1 1;", 3, 9);
        dueText("level 1 1 1;".repeat(9), 3, 10);
        dueText("   \n  levels", 1, 6);
    }

    private static void leastOfOneToken() {
        Check.sentence("of one TOKEN the least");
        // Less than its FROM and of 5 digits.
        dueText("upright 5 10 00009;", 2, 13);
        dueText("level 5 10 00010;", 2, 11);
        dueText("barn 5 6 years 5 00004;", 2, 17);
        dueText("wood 5 6 00004 6 1 2 3;", 2, 9);
        dueText("wood 5 6 5 00005 1 2 3;", 2, 11);
        // Of 5 digits where no number can stand.
        dueText("air 70 12345;", 1, 7);
        dueText("12345", 1, 0);
    }
}
