/** Promise 8: strength, of FIRST and SECOND echoes, by their numbers. */
public final class Promise08StrengthTest {
    public static void main(String[] args) {
        losses();
        woodsTwice();
        woodsByNumber();
        tones();
        touchingWoods();
        woodsOfWalls();
        seconds();
        numbers();
        heardOrNot();
        noSuchNumber();
        wrongInputs();
        Check.end();
    }

    private static void dueStrength(String text, int x, int y, int tone, int echo, int strength) {
        Check.due(text + " at " + x + ", " + y + ", strength of " + echo, strength,
                Check.valleyOf(text).strength(0, x, y, 0, tone, echo));
    }

    private static void losses() {
        Check.sentence("STRENGTH: 1000 by 100 less LOSS, by 100, cut down");
        dueStrength("upright 10 0 20;", 4, 5, 0, 0, 1000);
        dueStrength("upright 10 0 20 loss 0;", 4, 5, 0, 0, 1000);
        dueStrength("upright 10 0 20 loss 1;", 4, 5, 0, 0, 990);
        dueStrength("upright 10 0 20 loss 99;", 4, 5, 0, 0, 10);
        dueStrength("upright 10 0 20 loss 100;", 4, 5, 0, 0, 0);
        dueStrength("level 10 0 20 loss 37;", 4, 5, 0, 0, 630);
        dueStrength("barn 10 5;", 4, 5, 0, 8, 1000);
        dueStrength("barn 10 5 loss 99;", 4, 5, 0, 8, 10);
        dueStrength("barn 10 5 loss 100;", 4, 5, 0, 8, 0);
        dueStrength("barn 10 5 loss 37 years 0 1;", 4, 5, 0, 8, 630);
    }

    private static void woodsTwice() {
        Check.sentence("twice: by 100 less what it TAKES of the TONE, by 100, cut down");
        dueStrength("barn 10 5;wood 5 5 6 6 0 0 0;", 0, 5, 0, 8, 1000);
        dueStrength("barn 10 5;wood 5 5 6 6 1 0 0;", 0, 5, 0, 8, 980);
        dueStrength("barn 10 5;wood 5 5 6 6 99 0 0;", 0, 5, 0, 8, 0);
        dueStrength("barn 10 5;wood 5 5 6 6 97 0 0;", 0, 5, 0, 8, 0);
        dueStrength("barn 10 5;wood 5 5 6 6 96 0 0;", 0, 5, 0, 8, 1);
        dueStrength("barn 10 5;wood 5 5 6 6 100 0 0;", 0, 5, 0, 8, 0);
        // 990, 663.3, 444.21: cut down each time (a single cut would leave 444 too).
        dueStrength("upright 10 0 20 loss 1;wood 5 5 6 6 33 0 100;", 0, 5, 0, 0, 444);
        // 10, 9.9, 8.91 if each is cut down; 9 if only the last were.
        dueStrength("barn 10 5 loss 99;wood 5 5 6 6 1 0 0;", 0, 5, 0, 8, 8);
    }

    private static void woodsByNumber() {
        Check.sentence("then for each WOOD, by number");
        dueStrength("barn 10 5;wood 5 5 6 6 50 0 0;wood 8 5 9 6 33 0 0;", 0, 5, 0, 8, 111);
        dueStrength("barn 10 5;wood 8 5 9 6 33 0 0;wood 5 5 6 6 50 0 0;", 0, 5, 0, 8, 112);
        // 1000, 250, 62, 15, 3: as many as there can be.
        dueStrength("barn 10 5;wood 5 5 6 6 50 0 0;", 0, 5, 0, 8, 250);
        dueStrength("barn 10 5;" + "wood 5 5 6 6 50 0 0;".repeat(2), 0, 5, 0, 8, 62);
        dueStrength("barn 10 5;" + "wood 5 5 6 6 50 0 0;".repeat(3), 0, 5, 0, 8, 15);
        dueStrength("barn 10 5;" + "wood 5 5 6 6 50 0 0;".repeat(4), 0, 5, 0, 8, 3);
        dueStrength("barn 10 5;" + "wood 0 7 9 9 50 0 0;".repeat(3) + "wood 5 5 6 6 50 0 0;", 0, 5, 0, 8, 250);
    }

    private static void tones() {
        Check.sentence("what they TAKE of TONES 0, 1, 2");
        String text = "upright 10 0 20;barn 10 5;wood 5 5 6 6 10 0 100;";
        int[] due = {810, 1000, 0};
        for (int tone = 0; tone < 3; tone++) {
            dueStrength(text, 0, 5, tone, 0, due[tone]);
            dueStrength(text, 0, 5, tone, 8, due[tone]);
        }
    }

    private static void dueTouch(String wood, int x, int y, int barnX, int barnY, boolean touched) {
        int due = touched ? 250 : 1000;
        dueStrength("barn " + barnX + " " + barnY + ";wood " + wood + " 50 0 0;", x, y, 0, 8, due);
        dueStrength("barn " + x + " " + y + ";wood " + wood + " 50 0 0;", barnX, barnY, 0, 8, due);
    }

    private static void touchingWoods() {
        Check.sentence("that the line from the PLACE to the foot (to the BARN) meets (touching counts)");
        // Along its sides and just beside them.
        dueTouch("5 5 8 8", 0, 4, 20, 4, false);
        dueTouch("5 5 8 8", 0, 5, 20, 5, true);
        dueTouch("5 5 8 8", 0, 8, 20, 8, true);
        dueTouch("5 5 8 8", 0, 9, 20, 9, false);
        dueTouch("5 5 8 8", 4, 0, 4, 20, false);
        dueTouch("5 5 8 8", 5, 0, 5, 20, true);
        dueTouch("5 5 8 8", 8, 0, 8, 20, true);
        dueTouch("5 5 8 8", 9, 0, 9, 20, false);
        // With one end at its side, and just in front of it.
        dueTouch("5 5 8 8", 0, 6, 5, 6, true);
        dueTouch("5 5 8 8", 0, 6, 4, 6, false);
        dueTouch("5 5 8 8", 20, 6, 8, 6, true);
        dueTouch("5 5 8 8", 20, 6, 9, 6, false);
        dueTouch("5 5 8 8", 6, 0, 6, 5, true);
        dueTouch("5 5 8 8", 6, 0, 6, 4, false);
        dueTouch("5 5 8 8", 6, 20, 6, 8, true);
        dueTouch("5 5 8 8", 6, 20, 6, 9, false);
        // With one end at its corner.
        dueTouch("5 5 8 8", 0, 0, 5, 5, true);
        dueTouch("5 5 8 8", 0, 0, 4, 4, false);
        dueTouch("5 5 8 8", 20, 0, 8, 5, true);
        // Past a corner: the line from 0, 10 to 10, 0 goes through 5, 5.
        dueTouch("5 5 8 8", 0, 10, 10, 0, true);
        dueTouch("6 5 8 8", 0, 10, 10, 0, false);
        dueTouch("5 6 8 8", 0, 10, 10, 0, false);
        dueTouch("2 2 5 5", 0, 10, 10, 0, true);
        dueTouch("2 2 4 5", 0, 10, 10, 0, false);
        dueTouch("2 2 5 4", 0, 10, 10, 0, false);
        dueTouch("2 5 5 8", 0, 0, 10, 10, true);
        dueTouch("2 6 5 8", 0, 0, 10, 10, false);
        dueTouch("5 2 8 5", 0, 0, 10, 10, true);
        dueTouch("6 2 8 5", 0, 0, 10, 10, false);
        // A wood of one place, and of one line.
        dueTouch("5 5 5 5", 0, 10, 10, 0, true);
        dueTouch("5 5 5 5", 0, 0, 4, 4, false);
        dueTouch("5 5 5 5", 0, 0, 10, 9, false);
        dueTouch("3 0 3 40", 0, 1, 10, 4, true);
        dueTouch("3 2 3 40", 0, 1, 10, 4, false);
        dueTouch("3 0 3 1", 0, 1, 10, 4, false);
        // All within it.
        dueTouch("0 0 40 40", 10, 10, 12, 11, true);
        // Between the corners without a whole number on the line.
        dueTouch("4 3 5 4", 0, 0, 10, 7, true);
        dueTouch("4 1 5 2", 0, 0, 10, 7, false);
        dueTouch("39 39 40 40", 0, 0, 40, 38, false);
        dueTouch("39 38 40 40", 0, 0, 40, 38, true);
    }

    private static void woodsOfWalls() {
        Check.sentence("the line from the PLACE to the foot");
        String wall = "upright 10 0 20;wood ";
        dueStrength(wall + "10 5 12 6 50 0 0;", 4, 5, 0, 0, 250);
        dueStrength(wall + "11 5 12 6 50 0 0;", 4, 5, 0, 0, 1000);
        dueStrength(wall + "0 5 4 6 50 0 0;", 4, 5, 0, 0, 250);
        dueStrength(wall + "0 5 3 6 50 0 0;", 4, 5, 0, 0, 1000);
        dueStrength(wall + "5 0 6 4 50 0 0;", 4, 5, 0, 0, 1000);
        dueStrength(wall + "5 0 6 5 50 0 0;", 4, 5, 0, 0, 250);
        dueStrength(wall + "5 6 6 9 50 0 0;", 4, 5, 0, 0, 1000);
        String level = "level 10 0 20;wood ";
        dueStrength(level + "5 10 6 12 50 0 0;", 5, 4, 0, 0, 250);
        dueStrength(level + "5 11 6 12 50 0 0;", 5, 4, 0, 0, 1000);
        dueStrength(level + "5 0 6 4 50 0 0;", 5, 4, 0, 0, 250);
        dueStrength(level + "5 0 6 3 50 0 0;", 5, 4, 0, 0, 1000);
        dueStrength(level + "6 5 9 6 50 0 0;", 5, 4, 0, 0, 1000);
    }

    private static void seconds() {
        Check.sentence("STRENGTH: both by one another, by 1000, cut down.");
        dueStrength("level 10 0 20;upright 10 0 20;", 7, 6, 0, 17, 1000);
        dueStrength("level 10 0 20 loss 50;upright 10 0 20 loss 33;", 7, 6, 0, 17, 335);
        dueStrength("level 10 0 20 loss 51;upright 10 0 20 loss 33;", 7, 6, 0, 17, 328);
        dueStrength("level 10 0 20 loss 99;upright 10 0 20 loss 90;", 7, 6, 0, 17, 1);
        dueStrength("level 10 0 20 loss 99;upright 10 0 20 loss 91;", 7, 6, 0, 17, 0);
        dueStrength("level 10 0 20 loss 100;upright 10 0 20;", 7, 6, 0, 17, 0);
        dueStrength("level 10 0 20 loss 100;upright 10 0 20 loss 100;", 7, 6, 0, 17, 0);
        // Each with what the woods on its own way leave: 250 and 640.
        dueStrength("level 10 0 20;upright 10 0 20;wood 7 8 7 8 50 0 0;wood 9 6 9 6 20 0 0;", 7, 6, 0, 17, 160);
    }

    private static void numbers() {
        Check.sentence("FIRST of a WALL its number; of a BARN 8 and its number; SECOND of WALLS i below j: 16 and 8 by i and j.");
        // Walls 0, 2, 3, 5 round the place, 1 and 4 as near as 0 and 2; barn 1 at the place itself.
        String text = "upright 0 0 40;upright 0 0 40;level 0 0 40;upright 40 0 40;level 0 1 19;level 40 0 40;";
        ClapValley valley = Check.valleyOf(text + "barn 1 1;barn 10 30;barn 2 2;barn 3 3;barn 4 4;barn 5 5;");
        for (int echo = 0; echo < 80; echo++) {
            boolean wall = echo == 0 || echo == 2 || echo == 3 || echo == 5;
            boolean barn = echo == 8 || echo >= 10 && echo <= 13;
            boolean pair = echo == 18 || echo == 19 || echo == 21 || echo == 35 || echo == 37 || echo == 45;
            Check.due("strength(0, 10, 30, 0, 0, " + echo + ")", wall || barn || pair ? 1000 : -1,
                    valley.strength(0, 10, 30, 0, 0, echo));
        }
        // The greatest number that an echo can have.
        dueStrength("barn 1 1;".repeat(6), 0, 0, 0, 13, 1000);
        dueStrength("level 40 0 1;".repeat(4) + "level 30 0 40;upright 30 0 40;", 5, 5, 0, 53, 1000);
        dueStrength("level 40 0 1;".repeat(4) + "level 30 0 40;upright 30 0 40;", 5, 5, 0, 60, -1);
        // Two on one side are no pair, nor are two of which one is none.
        dueStrength("upright 10 0 20;upright 7 0 5;", 4, 3, 0, 17, -1);
        dueStrength("upright 10 0 20;upright 7 0 5;", 8, 3, 0, 17, 1000);
        dueStrength("upright 10 0 20;upright 7 0 5;", 8, 6, 0, 17, -1);
        dueStrength("upright 10 0 20;upright 7 0 5;", 8, 3, 0, 24, -1);
    }

    private static void heardOrNot() {
        Check.sentence("its STRENGTH (heard or not; NONE: there is none)");
        dueStrength("upright 10 0 20 loss 95;hears 1000;", 4, 5, 0, 0, 50);
        dueStrength("barn 10 5 loss 100;hears 1000;", 4, 5, 0, 8, 0);
        dueStrength("level 10 0 20 loss 50;upright 10 0 20 loss 50;hears 1000;", 7, 6, 0, 17, 250);
        dueStrength("level 10 0 20 loss 50;hears 0;", 7, 6, 0, 1, -1);
        dueStrength("", 7, 6, 0, 0, -1);
        ClapValley valley = Check.valleyOf("barn 1 1 years 5 6;");
        int[] due = {-1, 1000, 1000, -1};
        for (int k = 0; k < 4; k++) {
            Check.due("strength in " + (4 + k), due[k], valley.strength(0, 0, 0, 4 + k, 0, 8));
        }
    }

    private static void noSuchNumber() {
        Check.sentence("NoSuchElementException: also a number not 0 to 79.");
        ClapValley valley = Check.valleyOf("barn 3 4;");
        Check.due("strength(.., 0)", -1, valley.strength(0, 0, 0, 0, 0, 0));
        Check.due("strength(.., 79)", -1, valley.strength(0, 0, 0, 0, 0, 79));
        Check.dueNone(valley, "strength(.., 80)", () -> valley.strength(0, 0, 0, 0, 0, 80));
        Check.dueNone(valley, "strength(.., -1)", () -> valley.strength(0, 0, 0, 0, 0, -1));
        for (int far : Check.FAR) {
            Check.dueNone(valley, "strength(.., " + far + ")", () -> valley.strength(0, 0, 0, 0, 0, far));
        }
    }

    private static void wrongInputs() {
        Check.sentence("no such PLACE, year, TONE (as everywhere)");
        ClapValley valley = new ClapValley();
        int[] last = {5, 40, 40, 99, 2};
        for (int k = 0; k < 5; k++) {
            int[] good = {0, 0, 0, 0, 0};
            good[k] = last[k];
            Check.due("strength of the last allowed", -1, valley.strength(good[0], good[1], good[2], good[3], good[4], 0));
            for (int value : new int[] {-1, last[k] + 1, Check.FAR[0], Check.FAR[1], Check.FAR[2], Check.FAR[3]}) {
                int[] w = {0, 0, 0, 0, 0};
                w[k] = value;
                Check.dueNone(valley, "strength, input " + k + " being " + value,
                        () -> valley.strength(w[0], w[1], w[2], w[3], w[4], 0));
            }
        }
    }
}
