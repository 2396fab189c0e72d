/** Promises 20 and 21: knows, word. */
public final class ThiefAndWordTest {
    public static void main(String[] args) {
        thiefAtTheWall();
        thiefAndBarn();
        thiefAndTheUnheard();
        words();
        wordsInWoods();
        wrongInputs();
        Check.end();
    }

    private static void thiefAtTheWall() {
        // His ticks are the ways across and along, less the straight way cut down.
        ClapValley valley = Check.valleyOf("upright 10 0 40;");
        Check.due("straight across", 40, valley.knows(0, 4, 5, 10, 5));
        Check.due("on the line", 41, valley.knows(0, 10, 7, 10, 5));
        int as3And4 = 0;
        for (int x = 0; x <= 40; x++) {
            for (int y = 0; y <= 40; y++) {
                int across = Math.abs(x - 10);
                int along = Math.abs(y - 5);
                int straight = 0;
                while ((straight + 1) * (straight + 1) <= across * across + along * along) {
                    straight++;
                }
                as3And4 += across != 0 && across + along - straight == 2 ? 1 : 0;
            }
        }
        Check.due("3 across and 4 along", as3And4, valley.knows(0, 13, 9, 10, 5));
    }

    private static void thiefAndBarn() {
        // The thief is at the barn: the way there and the straight way are one, so all is 0 but at the barn itself.
        ClapValley valley = Check.valleyOf("barn 20 20;");
        Check.due("elsewhere", 1680, valley.knows(0, 3, 4, 20, 20));
        Check.due("at the barn", 1, valley.knows(0, 20, 20, 20, 20));
        // By an air all ticks are cut down: twice the way to the barn, straight way 0 at his own place.
        Check.tell(valley, 0, "barn 0 1;air 150;");
        Check.due("at his own place", 1, valley.knows(0, 0, 1, 0, 0));
    }

    private static void thiefAndTheUnheard() {
        // What isn't heard at the place of the clap doesn't come to him; second echoes neither.
        ClapValley valley = Check.valleyOf("upright 10 0 40 loss 95;");
        Check.due("unheard", 1681, valley.knows(0, 4, 5, 10, 5));
        Check.tell(valley, 0, "upright 10 0 40 loss 95;hears 50;");
        Check.due("just heard", 40, valley.knows(0, 4, 5, 10, 5));
        Check.tell(valley, 0, "barn 20 20 years 1 99;");
        Check.due("no barn in year 0", 1681, valley.knows(0, 4, 5, 10, 5));
        Check.tell(valley, 0, "upright 10 0 40;wood 0 0 40 40 99 0 0;");
        Check.due("by tone 0", 1681, valley.knows(0, 4, 5, 10, 5));
        Check.tell(valley, 0, "upright 10 0 40;wood 0 0 40 40 0 99 99;");
        Check.due("by tone 0", 40, valley.knows(0, 4, 5, 10, 5));
    }

    private static void dueWord(String text, int x, int y, int tone, int due) {
        Check.due("word in " + text, due, Check.valleyOf(text).word(0, x, y, tone));
    }

    private static void words() {
        dueWord("", 3, 3, 0, 1680);
        dueWord("upright 10 0 40;", 4, 5, 0, 11 * 41 - 1);
        dueWord("upright 10 0 40;", 14, 5, 0, 31 * 41 - 1);
        dueWord("upright 10 0 40;", 10, 5, 0, 1680);
        dueWord("level 10 0 40;", 4, 5, 0, 11 * 41 - 1);
        dueWord("level 10 0 40 loss 100;barn 3 3;", 4, 5, 0, 11 * 41 - 1);
        // From 0, 0 a wall at x 1 from y 0 to 1 hides the lines up to y as x: of x 2 to 40, x and 1 places each.
        int left = 1680;
        for (int x = 2; x <= 40; x++) {
            left -= x + 1;
        }
        dueWord("upright 1 0 1;", 0, 0, 0, left);
    }

    private static void wordsInWoods() {
        String all = "wood 0 0 40 40 95 50 0;";
        dueWord(all, 4, 5, 0, 0);
        dueWord(all, 4, 5, 1, 1680);
        dueWord(all, 4, 5, 2, 1680);
        dueWord(all + "hears 500;", 4, 5, 1, 1680);
        dueWord(all + "hears 501;", 4, 5, 1, 0);
        dueWord(all + "wood 0 0 40 40 0 33 0;hears 335;", 4, 5, 1, 1680);
        dueWord(all + "wood 0 0 40 40 0 33 0;hears 336;", 4, 5, 1, 0);
        // Each wood once: those at y 20 and above, and the lines to them from 0, 0.
        dueWord("wood 0 20 40 40 99 0 0;", 0, 0, 0, 41 * 20 - 1);
        dueWord("hears 0;wood 0 0 40 40 100 0 0;", 0, 0, 0, 1680);
        dueWord("hears 1000;wood 0 40 0 40 1 0 0;", 0, 0, 0, 1679);
    }

    private static void wrongInputs() {
        ClapValley valley = new ClapValley();
        int[][] wrong = {{-1, 0, 0}, {6, 0, 0}, {0, -1, 0}, {0, 41, 0}, {0, 0, -1}, {0, 0, 41}};
        for (int[] w : wrong) {
            Check.dueNone("knows of a wrong input", () -> valley.knows(w[0], w[1], w[2], 0, 0));
            Check.dueNone("word of a wrong input", () -> valley.word(w[0], w[1], w[2], 0));
        }
        Check.dueNone("knows(.., -1, 0)", () -> valley.knows(0, 0, 0, -1, 0));
        Check.dueNone("knows(.., 41, 0)", () -> valley.knows(0, 0, 0, 41, 0));
        Check.dueNone("knows(.., 0, -1)", () -> valley.knows(0, 0, 0, 0, -1));
        Check.dueNone("knows(.., 0, 41)", () -> valley.knows(0, 0, 0, 0, 41));
        Check.dueNone("word(.., 3)", () -> valley.word(0, 0, 0, 3));
        Check.dueNone("word(.., -1)", () -> valley.word(0, 0, 0, -1));
    }
}
