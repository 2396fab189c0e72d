/** Promise 21: word. */
public final class Promise21WordTest {
    public static void main(String[] args) {
        notItsOwn();
        noWallHides();
        atWallsEnds();
        strengthOnce();
        woodsByNumber();
        tones();
        hearsOrMore();
        touchedWoods();
        nobody();
        wrongInputs();
        Check.end();
    }

    private static void dueWord(String text, int x, int y, int tone, int due) {
        Check.due("word in " + text + " at " + x + ", " + y, due, Check.valleyOf(text).word(0, x, y, tone));
    }

    private static void notItsOwn() {
        Check.sentence("how many PLACES hear it (not its own)");
        for (int[] place : new int[][] {{0, 0}, {40, 0}, {0, 40}, {40, 40}, {3, 3}}) {
            dueWord("", place[0], place[1], 0, 1680);
        }
        dueWord("hears 0;", 3, 3, 0, 1680);
        dueWord("hears 1000;barn 3 3;air 50;", 3, 3, 0, 1680);
    }

    private static void noWallHides() {
        Check.sentence("if no WALL HIDES it (as a BARN)");
        // The wall's own line hears it, and so do all on this side.
        dueWord("upright 10 0 40;", 4, 5, 0, 11 * 41 - 1);
        dueWord("upright 10 0 40;", 9, 5, 0, 11 * 41 - 1);
        dueWord("upright 10 0 40;", 10, 5, 0, 1680);
        dueWord("upright 10 0 40;", 11, 5, 0, 31 * 41 - 1);
        dueWord("level 10 0 40;", 5, 9, 0, 11 * 41 - 1);
        dueWord("level 10 0 40;", 5, 10, 0, 1680);
        dueWord("level 10 0 40;", 5, 11, 0, 31 * 41 - 1);
        dueWord("level 10 0 40 loss 100;barn 3 3;", 4, 5, 0, 11 * 41 - 1);
        // At the land's own edges a wall hides nothing.
        dueWord("upright 0 0 40;upright 40 0 40;level 0 0 40;level 40 0 40;", 20, 20, 0, 1680);
        dueWord("upright 1 0 40;level 1 0 40;", 0, 0, 0, 3);
    }

    private static void atWallsEnds() {
        Check.sentence("the straight line between both PLACES meets it there");
        // From 0, 0 a wall at x 1 from y 0 to 1 hides the lines up to y as x: of x 2 to 40, x and 1 places each.
        int left = 1680;
        for (int x = 2; x <= 40; x++) {
            left -= x + 1;
        }
        dueWord("upright 1 0 1;", 0, 0, 0, left);
        dueWord("level 1 0 1;", 0, 0, 0, left);
        // A wall from y 1 to 2 hides those from y as x up to twice x.
        left = 1680;
        for (int x = 2; x <= 40; x++) {
            left -= Math.min(40, 2 * x) - x + 1;
        }
        dueWord("upright 1 1 2;", 0, 0, 0, left);
        dueWord("level 1 1 2;", 0, 0, 0, left);
    }

    private static void strengthOnce() {
        Check.sentence("its STRENGTH, 1000, less what each WOOD that the line meets TAKES, once, is HEARS or more");
        String all = "wood 0 0 40 40 50 1 99;";
        dueWord(all + "hears 500;", 4, 5, 0, 1680);
        dueWord(all + "hears 501;", 4, 5, 0, 0);
        dueWord(all + "hears 990;", 4, 5, 1, 1680);
        dueWord(all + "hears 991;", 4, 5, 1, 0);
        dueWord(all + "hears 10;", 4, 5, 2, 1680);
        dueWord(all + "hears 11;", 4, 5, 2, 0);
    }

    private static void woodsByNumber() {
        Check.sentence("less what each WOOD that the line meets TAKES");
        String half = "wood 0 0 40 40 50 33 0;";
        dueWord(half + "wood 0 0 40 40 33 0 0;hears 335;", 4, 5, 0, 1680);
        dueWord(half + "wood 0 0 40 40 33 0 0;hears 336;", 4, 5, 0, 0);
        // 500, 250, 125, 62 and a half: as many as there can be, cut down.
        dueWord(half.repeat(4) + "hears 62;", 4, 5, 0, 1680);
        dueWord(half.repeat(4) + "hears 63;", 4, 5, 0, 0);
        // 670, 448.9, 300.16, 201.11 cut down each time: 670, 448, 300, 201.
        dueWord(half.repeat(3) + "hears 300;", 4, 5, 1, 1680);
        dueWord(half.repeat(3) + "hears 301;", 4, 5, 1, 0);
    }

    private static void tones() {
        Check.sentence("how many PLACES hear it, by a TONE");
        String all = "wood 0 0 40 40 95 50 0;";
        dueWord(all, 4, 5, 0, 0);
        dueWord(all, 4, 5, 1, 1680);
        dueWord(all, 4, 5, 2, 1680);
        dueWord(all + "hears 501;", 4, 5, 2, 1680);
    }

    private static void hearsOrMore() {
        Check.sentence("is HEARS or more");
        dueWord("hears 0;wood 0 0 40 40 100 0 0;", 0, 0, 0, 1680);
        dueWord("hears 1;wood 0 0 40 40 100 0 0;", 0, 0, 0, 0);
        dueWord("hears 1000;wood 0 0 40 40 0 1 1;", 0, 0, 0, 1680);
        dueWord("hears 1000;wood 0 0 40 40 1 0 0;", 0, 0, 0, 0);
        dueWord("wood 0 0 40 40 90 0 0;", 0, 0, 0, 1680);
        dueWord("wood 0 0 40 40 91 0 0;", 0, 0, 0, 0);
    }

    private static void touchedWoods() {
        Check.sentence("each WOOD that the line meets");
        dueWord("wood 0 20 40 40 99 0 0;", 0, 0, 0, 41 * 20 - 1);
        dueWord("wood 20 0 40 40 99 0 0;", 0, 0, 0, 41 * 20 - 1);
        dueWord("hears 1000;wood 0 40 0 40 1 0 0;", 0, 0, 0, 1679);
        dueWord("hears 1000;wood 40 40 40 40 1 0 0;", 0, 0, 0, 1679);
        // A wood of one place at 1, 1 takes of all on the diagonal; at his own place of all.
        dueWord("hears 1000;wood 1 1 1 1 1 0 0;", 0, 0, 0, 1640);
        dueWord("hears 1000;wood 0 0 0 0 1 0 0;", 0, 0, 0, 0);
        dueWord("hears 1000;wood 3 4 3 4 1 0 0;", 3, 4, 0, 0);
    }

    private static void nobody() {
        Check.sentence("how many PLACES hear it");
        dueWord("wood 0 0 40 40 100 100 100;", 20, 20, 1, 0);
        dueWord("wood 20 20 20 20 100 100 100;", 20, 20, 2, 0);
    }

    private static void wrongInputs() {
        Check.sentence("no such LAND (as everywhere), no such PLACE, TONE (as everywhere)");
        ClapValley valley = new ClapValley();
        int[] last = {5, 40, 40, 2};
        for (int k = 0; k < 4; k++) {
            int[] good = {0, 0, 0, 0};
            good[k] = last[k];
            Check.due("word of the last allowed", 1680, valley.word(good[0], good[1], good[2], good[3]));
            for (int value : new int[] {-1, last[k] + 1, Check.FAR[0], Check.FAR[1], Check.FAR[2], Check.FAR[3]}) {
                int[] w = {0, 0, 0, 0};
                w[k] = value;
                Check.dueNone(valley, "word, input " + k + " being " + value, () -> valley.word(w[0], w[1], w[2], w[3]));
            }
        }
        Check.dueNone(valley, "word at no place", () -> valley.word(0, -1, -1, 0));
    }
}
