/** Promises 7 and 8: clap, strength. */
public final class ClapTest {
    public static void main(String[] args) {
        walls();
        nearest();
        secondEchoes();
        airAndRoots();
        barns();
        hiddenBarns();
        losses();
        woods();
        touchedWoods();
        heard();
        wrongInputs();
        Check.end();
    }

    /** The whole row of a clap in year 0 by tone 0. */
    private static void dueRow(String text, int x, int y, int... row) {
        dueRow(Check.valleyOf(text), text, x, y, 0, row);
    }

    private static void dueRow(ClapValley valley, String text, int x, int y, int year, int... row) {
        String call = text + " at " + x + ", " + y + " in " + year;
        Check.due(call, row.length, valley.clap(0, x, y, year, 0, -1));
        for (int i = 0; i < row.length; i++) {
            int k = i;
            Check.due(call + ", " + i, Integer.toString(row[i]), Check.answer(() -> valley.clap(0, x, y, year, 0, k)));
        }
        Check.dueNone(call + ", one more", () -> valley.clap(0, x, y, year, 0, row.length));
        Check.dueNone(call + ", -2", () -> valley.clap(0, x, y, year, 0, -2));
    }

    private static void dueStrength(String text, int x, int y, int tone, int echo, int strength) {
        Check.due(text + " at " + x + ", " + y + ", strength of " + echo, strength,
                Check.valleyOf(text).strength(0, x, y, 0, tone, echo));
    }

    private static void walls() {
        String upright = "upright 10 2 20;";
        dueRow(upright, 4, 5, 12);
        dueRow(upright, 14, 5, 8);
        dueRow(upright, 4, 2, 12);
        dueRow(upright, 4, 20, 12);
        dueRow(upright, 4, 1);
        dueRow(upright, 4, 21);
        dueRow(upright, 10, 5);
        dueRow(upright, 10, 30);
        String level = "level 10 2 20;";
        dueRow(level, 5, 4, 12);
        dueRow(level, 5, 14, 8);
        dueRow(level, 2, 4, 12);
        dueRow(level, 20, 4, 12);
        dueRow(level, 1, 4);
        dueRow(level, 21, 4);
        dueRow(level, 5, 10);
    }

    private static void nearest() {
        String asNear = "upright 10 0 20;upright 10 5 30 loss 50;";
        dueRow(asNear, 4, 10, 12);
        dueStrength(asNear, 4, 10, 0, 0, 1000);
        dueStrength(asNear, 4, 10, 0, 1, -1);
        dueStrength(asNear, 4, 25, 0, 0, -1);
        dueStrength(asNear, 4, 25, 0, 1, 500);
        String nearer = "upright 10 0 20;upright 7 0 5;";
        dueRow(nearer, 4, 3, 6);
        dueRow(nearer, 4, 8, 12);
        dueRow(nearer, 8, 3, 2, 4, 6);
        dueStrength(nearer, 4, 3, 0, 0, -1);
        dueStrength(nearer, 4, 3, 0, 17, -1);
        dueStrength(nearer, 8, 3, 0, 17, 1000);
        dueStrength(nearer, 8, 3, 0, 24, -1);
        dueRow("level 10 0 20;level 7 0 5;", 3, 4, 6);
        dueRow("level 10 0 20;upright 7 0 20;", 3, 4, 8, 12, 14);
    }

    private static void secondEchoes() {
        String corner = "level 10 0 20;upright 10 0 20;";
        dueRow(corner, 7, 6, 6, 8, 10);
        dueRow("level 10 0 20 loss 50;upright 10 0 20 loss 33;", 7, 6, 6, 8, 10);
        dueStrength("level 10 0 20 loss 50;upright 10 0 20 loss 33;", 7, 6, 0, 17, 335);
        dueStrength("level 10 0 20 loss 51;upright 10 0 20 loss 33;", 7, 6, 0, 17, 328);
        String court = "upright 0 0 40;level 0 0 40;upright 40 0 40;level 40 0 40;";
        // 20, 60 to the sides; 60, 20 up and down; pairs: 80, 80, and roots of 400 + 3600 and so on.
        dueRow(court, 10, 30, 20, 20, 28, 60, 60, 63, 63, 80, 80, 84);
        for (int echo = 0; echo < 80; echo++) {
            boolean there = echo < 4 || echo == 17 || echo == 18 || echo == 19 || echo == 26 || echo == 27 || echo == 35;
            dueStrength(court, 10, 30, 0, echo, there ? 1000 : -1);
        }
        // Of walls that aren't heard there are second echoes too; all losses make them still.
        dueStrength("level 10 0 20 loss 100;upright 10 0 20;", 7, 6, 0, 17, 0);
        dueRow("level 10 0 20 loss 100;upright 10 0 20;", 7, 6, 6);
        dueRow("level 10 0 20 loss 100;upright 10 0 20;hears 0;", 7, 6, 6, 8, 10);
    }

    private static void airAndRoots() {
        dueRow("upright 10 0 20;air 150;", 4, 5, 8);
        dueRow("upright 10 0 20;air 70;", 4, 5, 17);
        dueRow("upright 10 0 20;air 50;", 4, 5, 24);
        dueRow("barn 1 1;", 0, 0, 2);
        dueRow("barn 1 1;air 50;", 0, 0, 5);
        dueRow("barn 40 40;air 50;", 0, 0, 226);
        dueRow("barn 40 40;air 150;", 0, 0, 75);
        dueRow("level 40 0 40;upright 40 0 40;air 50;", 0, 0, 160, 160, 226);
    }

    private static void barns() {
        dueRow("barn 3 4;barn 0 0;barn 6 8;", 0, 0, 10, 20);
        dueRow("barn 3 4;barn 3 4;", 0, 0, 10, 10);
        dueStrength("barn 3 4;barn 0 0;barn 6 8;", 0, 0, 0, 8, 1000);
        dueStrength("barn 3 4;barn 0 0;barn 6 8;", 0, 0, 0, 9, -1);
        dueStrength("barn 3 4;barn 0 0;barn 6 8;", 0, 0, 0, 10, 1000);
        dueStrength("barn 3 4;barn 0 0;barn 6 8;", 0, 0, 0, 11, -1);
        String years = "barn 3 4 years 5 9;barn 6 8 years 9 9;";
        ClapValley valley = Check.valleyOf(years);
        dueRow(valley, years, 0, 0, 4);
        dueRow(valley, years, 0, 0, 5, 10);
        dueRow(valley, years, 0, 0, 9, 10, 20);
        dueRow(valley, years, 0, 0, 10);
    }

    /** Of clap 0, 0 and barn 10, 10 or 10, 7, whether the barn's echo is there. */
    private static void dueHidden(String walls, int barnX, int barnY, boolean hidden) {
        String text = "barn " + barnX + " " + barnY + ";" + walls;
        dueStrength(text, 0, 0, 0, 8, hidden ? -1 : 1000);
    }

    private static void hiddenBarns() {
        dueHidden("upright 5 0 5;", 10, 10, true);
        dueHidden("upright 5 5 9;", 10, 10, true);
        dueHidden("upright 5 0 4;", 10, 10, false);
        dueHidden("upright 5 6 40;", 10, 10, false);
        dueHidden("upright 10 0 40;", 10, 10, false);
        dueHidden("upright 0 0 40;", 10, 10, false);
        dueHidden("upright 11 0 40;", 10, 10, false);
        dueHidden("upright 5 4 10;", 10, 7, false);
        dueHidden("upright 5 3 4;", 10, 7, true);
        dueHidden("upright 5 2 3;", 10, 7, false);
        dueHidden("upright 5 3 4;", 7, 10, false);
        dueHidden("level 5 0 5;", 10, 10, true);
        dueHidden("level 5 5 9;", 10, 10, true);
        dueHidden("level 5 0 4;", 10, 10, false);
        dueHidden("level 10 0 40;", 10, 10, false);
        dueHidden("level 0 0 40;", 10, 10, false);
        dueHidden("level 5 3 4;", 7, 10, true);
        dueHidden("level 5 0 3;", 7, 10, false);
        dueHidden("upright 0 2 8;", 0, 10, false);
        dueHidden("level 5 0 8;", 0, 10, true);
        dueHidden("level 30 0 8;level 5 0 8;", 0, 10, true);
        // The other way round: the place is at the greater end.
        dueRow("barn 0 0;upright 5 3 4;", 10, 7);
        dueRow("barn 0 0;upright 5 2 3;", 10, 7, 24);
    }

    private static void losses() {
        dueStrength("upright 10 0 20 loss 1;", 4, 5, 0, 0, 990);
        dueStrength("barn 10 5 loss 99;", 4, 5, 0, 8, 10);
        dueStrength("barn 10 5 loss 100;", 4, 5, 0, 8, 0);
    }

    private static void woods() {
        String wood = "upright 10 0 20 loss 1;wood 5 5 6 6 33 0 100;";
        dueStrength(wood, 0, 5, 0, 0, 444);
        dueStrength(wood, 0, 5, 1, 0, 990);
        dueStrength(wood, 0, 5, 2, 0, 0);
        // In the order of their numbers, cut down each time.
        dueStrength("barn 10 5;wood 5 5 6 6 50 0 0;wood 8 5 9 6 33 0 0;", 0, 5, 0, 8, 111);
        dueStrength("barn 10 5;wood 8 5 9 6 33 0 0;wood 5 5 6 6 50 0 0;", 0, 5, 0, 8, 112);
    }

    private static void dueTouch(String wood, int x, int y, int barnX, int barnY, boolean touched) {
        dueStrength("barn " + barnX + " " + barnY + ";wood " + wood + " 50 0 0;", x, y, 0, 8, touched ? 250 : 1000);
    }

    private static void touchedWoods() {
        dueTouch("5 5 6 6", 0, 5, 20, 5, true);
        dueTouch("5 5 6 6", 0, 6, 20, 6, true);
        dueTouch("5 5 6 6", 0, 4, 20, 4, false);
        dueTouch("5 5 6 6", 0, 7, 20, 7, false);
        dueTouch("5 5 6 6", 0, 5, 5, 5, true);
        dueTouch("5 5 6 6", 0, 5, 4, 5, false);
        dueTouch("5 5 6 6", 6, 6, 20, 6, true);
        dueTouch("5 5 6 6", 7, 6, 20, 6, false);
        dueTouch("5 5 8 8", 0, 10, 10, 0, true);
        dueTouch("6 5 8 8", 0, 10, 10, 0, false);
        dueTouch("2 2 5 5", 0, 10, 10, 0, true);
        dueTouch("2 2 4 5", 0, 10, 10, 0, false);
        dueTouch("5 5 5 5", 0, 10, 10, 0, true);
        dueTouch("5 5 5 5", 0, 0, 4, 4, false);
        dueTouch("0 0 40 40", 10, 10, 12, 11, true);
        dueTouch("3 0 3 40", 0, 1, 10, 4, true);
        // Between the corners without a whole number on the line.
        dueTouch("4 3 5 4", 0, 0, 10, 7, true);
        dueTouch("4 1 5 2", 0, 0, 10, 7, false);
    }

    private static void heard() {
        dueRow("barn 3 4 loss 50;hears 500;", 0, 0, 10);
        dueRow("barn 3 4 loss 50;hears 501;", 0, 0);
        dueRow("barn 3 4;hears 1000;", 0, 0, 10);
        dueRow("barn 3 4 loss 100;hears 0;", 0, 0, 10);
        dueRow("barn 3 4 loss 90;", 0, 0, 10);
        dueRow("barn 3 4 loss 91;", 0, 0);
    }

    private static void wrongInputs() {
        ClapValley valley = Check.valleyOf("barn 3 4;");
        int[][] wrong = {{-1, 0, 0, 0, 0}, {6, 0, 0, 0, 0}, {0, -1, 0, 0, 0}, {0, 41, 0, 0, 0}, {0, 0, -1, 0, 0},
            {0, 0, 41, 0, 0}, {0, 0, 0, -1, 0}, {0, 0, 0, 100, 0}, {0, 0, 0, 0, -1}, {0, 0, 0, 0, 3}};
        for (int[] w : wrong) {
            Check.dueNone("clap of a wrong input", () -> valley.clap(w[0], w[1], w[2], w[3], w[4], -1));
            Check.dueNone("strength of a wrong input", () -> valley.strength(w[0], w[1], w[2], w[3], w[4], 8));
        }
        Check.due("clap at the ends", 1, valley.clap(0, 40, 40, 99, 2, -1));
        Check.due("strength(.., 79)", -1, valley.strength(0, 0, 0, 0, 0, 79));
        Check.dueNone("strength(.., 80)", () -> valley.strength(0, 0, 0, 0, 0, 80));
        Check.dueNone("strength(.., -1)", () -> valley.strength(0, 0, 0, 0, 0, -1));
    }
}
