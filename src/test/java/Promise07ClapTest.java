/** Promise 7: clap, with FIRST and SECOND echoes, TICKS and the ROW. */
public final class Promise07ClapTest {
    public static void main(String[] args) {
        atTheLine();
        footOnIt();
        nearerOnThatSide();
        asNear();
        nothingElseHides();
        barnYears();
        atAnotherPlace();
        betweenBoth();
        lineMeetsIt();
        hidingWalls();
        secondEchoes();
        heard();
        ticks();
        rowInOrder();
        nothingAndAll();
        thereIsNone();
        wrongInputs();
        Check.end();
    }

    /** The whole row of a clap in year 0 by tone 0. */
    private static void dueRow(String text, int x, int y, int... row) {
        Check.dueRow(Check.valleyOf(text), 0, x, y, 0, 0, row);
    }

    private static void atTheLine() {
        Check.sentence("of a WALL at whose line the PLACE isn't");
        dueRow("upright 10 2 20;", 9, 5, 2);
        dueRow("upright 10 2 20;", 10, 5);
        dueRow("upright 10 2 20;", 11, 5, 2);
        dueRow("upright 10 2 20;", 10, 2);
        dueRow("upright 10 2 20;", 10, 30);
        dueRow("level 10 2 20;", 5, 9, 2);
        dueRow("level 10 2 20;", 5, 10);
        dueRow("level 10 2 20;", 5, 11, 2);
        dueRow("level 10 2 20;", 20, 10);
        dueRow("level 10 2 20;", 30, 10);
        dueRow("upright 0 0 40;", 40, 0, 80);
        dueRow("upright 40 0 40;", 0, 40, 80);
        dueRow("level 0 0 40;", 0, 40, 80);
        dueRow("level 40 0 40;", 40, 0, 80);
    }

    private static void footOnIt() {
        Check.sentence("its foot (the PLACE of the line straight across) being on it");
        for (int x : new int[] {4, 16}) {
            dueRow("upright 10 2 20;", x, 1);
            dueRow("upright 10 2 20;", x, 2, 12);
            dueRow("upright 10 2 20;", x, 20, 12);
            dueRow("upright 10 2 20;", x, 21);
            dueRow("level 10 2 20;", 1, x);
            dueRow("level 10 2 20;", 2, x, 12);
            dueRow("level 10 2 20;", 20, x, 12);
            dueRow("level 10 2 20;", 21, x);
        }
        dueRow("upright 10 0 1;", 4, 0, 12);
        dueRow("upright 10 0 1;", 4, 1, 12);
        dueRow("upright 10 0 1;", 4, 2);
        dueRow("level 10 39 40;", 38, 4);
        dueRow("level 10 39 40;", 39, 4, 12);
        dueRow("level 10 39 40;", 40, 4, 12);
    }

    private static void nearerOnThatSide() {
        Check.sentence("unless another WALL of its sort, with its foot on it, lies nearer on that side");
        dueRow("upright 10 0 20;upright 9 0 20;", 4, 3, 10);
        dueRow("upright 9 0 20;upright 10 0 20;", 4, 3, 10);
        dueRow("upright 10 0 20;upright 9 0 20;", 14, 3, 8);
        dueRow("level 10 0 20;level 9 0 20;", 3, 4, 10);
        dueRow("level 10 0 20;level 9 0 20;", 3, 14, 8);
        // Of two on both sides, both: a nearer one on the other side is no matter.
        dueRow("upright 10 0 20;upright 7 0 20;", 8, 3, 2, 4, 6);
        dueRow("upright 10 0 20;upright 7 0 20;", 9, 3, 2, 4, 6);
        dueRow("level 10 0 20;level 7 0 20;", 3, 8, 2, 4, 6);
        dueRow("level 10 0 20;level 7 0 20;", 3, 9, 2, 4, 6);
        // With its foot on it, up to its ends.
        dueRow("upright 10 0 20;upright 7 2 5;", 4, 1, 12);
        dueRow("upright 10 0 20;upright 7 2 5;", 4, 2, 6);
        dueRow("upright 10 0 20;upright 7 2 5;", 4, 5, 6);
        dueRow("upright 10 0 20;upright 7 2 5;", 4, 6, 12);
        // At a wall's own line it is on no side.
        dueRow("upright 10 0 20;upright 7 0 20;", 7, 3, 6);
        dueRow("level 10 0 20;level 7 0 20;", 3, 7, 6);
        // Of another sort.
        dueRow("upright 10 0 20;level 5 0 20;", 4, 4, 2, 12, 12);
        // Even if it isn't heard.
        dueRow("upright 10 0 20;upright 7 0 20 loss 100;", 4, 3);
        // The nearest of six.
        dueRow("upright 10 0 9;upright 9 0 9;upright 8 0 9;upright 7 0 9;upright 6 0 9;upright 5 0 9;", 0, 0, 10);
        dueRow("level 5 0 9;level 6 0 9;level 7 0 9;level 8 0 9;level 9 0 9;level 10 0 9;", 0, 0, 10);
    }

    private static void asNear() {
        Check.sentence("or as near and is of a lesser number");
        String both = "upright 10 0 20;upright 10 5 30 loss 50;";
        dueRow(both, 4, 10, 12);
        dueRow(both, 4, 25, 12);
        ClapValley valley = Check.valleyOf(both);
        Check.due("strength of 0", 1000, valley.strength(0, 4, 10, 0, 0, 0));
        Check.due("strength of 1", -1, valley.strength(0, 4, 10, 0, 0, 1));
        Check.due("strength of 0 past its end", -1, valley.strength(0, 4, 21, 0, 0, 0));
        Check.due("strength of 1 past the end of 0", 500, valley.strength(0, 4, 21, 0, 0, 1));
        // As near, but not on that side.
        dueRow("upright 10 0 20;upright 2 0 20;", 6, 3, 8, 8, 16);
        dueRow("level 10 0 20;level 2 0 20;", 3, 6, 8, 8, 16);
        // As near, but of another sort.
        dueRow("upright 10 0 20;level 10 0 20;", 6, 6, 8, 8, 11);
    }

    private static void nothingElseHides() {
        Check.sentence("FIRST echoes: of a WALL");
        // Neither a barn in front of it nor a wall of the other sort across the way hides a wall.
        dueRow("upright 10 0 20;barn 7 5;", 4, 5, 6, 12);
        dueRow("upright 10 0 20;level 5 0 20;", 4, 5, 12);
    }

    private static void barnYears() {
        Check.sentence("Of a BARN that there is in that year");
        ClapValley valley = Check.valleyOf("barn 3 4 years 5 9;barn 6 8 years 9 9;");
        Check.dueRow(valley, 0, 0, 0, 4, 0);
        Check.dueRow(valley, 0, 0, 0, 5, 0, 10);
        Check.dueRow(valley, 0, 0, 0, 8, 0, 10);
        Check.dueRow(valley, 0, 0, 0, 9, 0, 10, 20);
        Check.dueRow(valley, 0, 0, 0, 10, 0);
    }

    private static void atAnotherPlace() {
        Check.sentence("at another PLACE");
        dueRow("barn 3 4;", 3, 4);
        dueRow("barn 3 4;", 3, 5, 2);
        dueRow("barn 3 4;", 2, 4, 2);
        dueRow("barn 3 4;", 4, 3, 2);
        dueRow("barn 3 4;", 4, 4, 2);
        dueRow("barn 3 4;barn 3 4;barn 6 8;", 0, 0, 10, 10, 20);
        dueRow("barn 3 4;barn 3 4;barn 6 8;", 3, 4, 10);
        dueRow("barn 0 0;barn 40 40;", 0, 0, 113);
        dueRow("barn 0 0;barn 40 40;", 40, 40, 113);
    }

    /** Of a clap at 0, 0: whether a barn is hidden; and the other way round, with barn and clap exchanged. */
    private static void dueHidden(String walls, int barnX, int barnY, boolean hidden) {
        ClapValley valley = Check.valleyOf("barn " + barnX + " " + barnY + ";barn 0 0;" + walls);
        int due = hidden ? -1 : 1000;
        String call = "barn " + barnX + " " + barnY + " behind " + walls;
        Check.due(call, due, valley.strength(0, 0, 0, 0, 0, 8));
        Check.due(call + ", from it", due, valley.strength(0, barnX, barnY, 0, 0, 9));
    }

    /** Of both sorts: the text with upright walls, and its image across the diagonal with level ones. */
    private static void dueHiddenBoth(String wall, int barnX, int barnY, boolean hidden) {
        dueHidden("upright " + wall + ";", barnX, barnY, hidden);
        dueHidden("level " + wall + ";", barnY, barnX, hidden);
    }

    private static void betweenBoth() {
        Check.sentence("some UPRIGHT WALL's x lies between both x (at neither)");
        dueHiddenBoth("0 0 40", 10, 10, false);
        dueHiddenBoth("1 0 40", 10, 10, true);
        dueHiddenBoth("9 0 40", 10, 10, true);
        dueHiddenBoth("10 0 40", 10, 10, false);
        dueHiddenBoth("11 0 40", 10, 10, false);
        dueHiddenBoth("1 0 40", 2, 0, true);
        dueHiddenBoth("1 0 40", 1, 40, false);
        // The way runs along the wall, or just beside it.
        dueHiddenBoth("0 2 8", 0, 10, false);
        dueHiddenBoth("0 0 40", 0, 40, false);
        dueHiddenBoth("1 0 40", 1, 10, false);
    }

    private static void lineMeetsIt() {
        Check.sentence("and the straight line between both PLACES meets it there");
        dueHiddenBoth("5 0 4", 10, 10, false);
        dueHiddenBoth("5 0 5", 10, 10, true);
        dueHiddenBoth("5 5 9", 10, 10, true);
        dueHiddenBoth("5 6 40", 10, 10, false);
        dueHiddenBoth("5 0 1", 10, 0, true);
        dueHiddenBoth("5 1 2", 10, 0, false);
        // At 5 it is at 3 and a half.
        dueHiddenBoth("5 2 3", 10, 7, false);
        dueHiddenBoth("5 3 4", 10, 7, true);
        dueHiddenBoth("5 4 5", 10, 7, false);
        // At 1 it is a 40th below 1, at 39 a 40th above 38.
        dueHiddenBoth("1 0 1", 40, 39, true);
        dueHiddenBoth("1 1 2", 40, 39, false);
        dueHiddenBoth("39 38 39", 40, 39, true);
        dueHiddenBoth("39 37 38", 40, 39, false);
        dueHiddenBoth("39 39 40", 40, 39, false);
    }

    private static void hidingWalls() {
        Check.sentence("or some LEVEL one likewise");
        dueHidden("level 30 0 8;level 5 0 8;", 0, 10, true);
        dueHidden("upright 5 0 1;level 5 5 6;", 10, 10, true);
        // A wall that gives no echo hides all the same.
        dueHidden("upright 5 0 40 loss 100;hears 1000;", 10, 10, true);
        // The last of six.
        dueHidden("upright 5 0 1;".repeat(5) + "upright 5 4 6;", 10, 10, true);
        // Downwards to the right.
        ClapValley valley = Check.valleyOf("barn 10 0;upright 5 5 6;hears 0;");
        Check.due("downwards", -1, valley.strength(0, 0, 10, 0, 0, 8));
        Check.tell(valley, 0, "barn 10 0;upright 5 6 7;hears 0;");
        Check.due("downwards, below", 1000, valley.strength(0, 0, 10, 0, 0, 8));
        Check.tell(valley, 0, "barn 10 0;upright 5 3 4;hears 0;");
        Check.due("downwards, above", 1000, valley.strength(0, 0, 10, 0, 0, 8));
    }

    private static void secondEchoes() {
        Check.sentence("SECOND echoes, of two FIRST ones of WALLS (heard or not)");
        dueRow("level 10 0 20;upright 10 0 20;", 7, 6, 6, 8, 10);
        dueRow("upright 10 0 20;level 10 0 20;", 7, 6, 6, 8, 10);
        dueRow("level 10 0 20;level 0 0 20;", 7, 6, 8, 12, 20);
        // 20, 60 to the sides; 60, 20 up and down; pairs: 80, 80, and roots of 400 + 3600 and so on.
        String court = "upright 0 0 40;level 0 0 40;upright 40 0 40;level 40 0 40;";
        dueRow(court, 10, 30, 20, 20, 28, 60, 60, 63, 63, 80, 80, 84);
        dueRow(court, 0, 0, 80, 80, 113);
        dueRow(court, 0, 20, 40, 40, 80, 80, 89, 89);
        // Of barns there are none.
        dueRow("level 10 0 20;barn 9 6;", 7, 6, 4, 8);
        // A first echo of strength 0 is there too, and so is the second one of it.
        dueRow("level 10 0 20 loss 100;upright 10 0 20;", 7, 6, 6);
        dueRow("level 10 0 20 loss 100;upright 10 0 20;hears 0;", 7, 6, 6, 8, 10);
        // Both unheard, but not their second one: never, it is no stronger than both.
        dueRow("level 10 0 20 loss 50;upright 10 0 20 loss 50;hears 250;", 7, 6, 6, 8, 10);
        dueRow("level 10 0 20 loss 50;upright 10 0 20 loss 50;hears 251;", 7, 6, 6, 8);
        dueRow("level 10 0 20 loss 50;upright 10 0 20 loss 50;hears 501;", 7, 6);
    }

    private static void heard() {
        Check.sentence("HEARD is an echo of a STRENGTH of HEARS or more.");
        dueRow("barn 3 4 loss 50;hears 499;", 0, 0, 10);
        dueRow("barn 3 4 loss 50;hears 500;", 0, 0, 10);
        dueRow("barn 3 4 loss 50;hears 501;", 0, 0);
        dueRow("barn 3 4;hears 1000;", 0, 0, 10);
        dueRow("barn 3 4 loss 1;hears 1000;", 0, 0);
        dueRow("barn 3 4 loss 100;hears 0;", 0, 0, 10);
        dueRow("barn 3 4 loss 100;hears 1;", 0, 0);
        dueRow("barn 3 4 loss 90;", 0, 0, 10);
        dueRow("barn 3 4 loss 91;", 0, 0);
        dueRow("upright 3 0 4 loss 90;", 0, 0, 6);
        dueRow("upright 3 0 4 loss 91;", 0, 0);
    }

    private static void ticks() {
        Check.sentence("TICKS: the root (cut down) of 10,000 by the square of the way, by AIR, cut down.");
        dueRow("upright 10 0 20;air 150;", 4, 5, 8);
        dueRow("upright 10 0 20;air 149;", 4, 5, 8);
        dueRow("upright 10 0 20;air 70;", 4, 5, 17);
        dueRow("upright 10 0 20;air 50;", 4, 5, 24);
        dueRow("upright 10 0 20;air 51;", 4, 5, 23);
        dueRow("upright 5 0 20;air 100;", 4, 5, 2);
        dueRow("upright 5 0 20;air 101;", 4, 5, 1);
        dueRow("upright 5 0 20;air 99;", 4, 5, 2);
        dueRow("upright 5 0 20;air 150;", 4, 5, 1);
        // The root of 8 is 2.828.
        dueRow("barn 1 1;", 0, 0, 2);
        dueRow("barn 1 1;air 94;", 0, 0, 3);
        dueRow("barn 1 1;air 95;", 0, 0, 2);
        dueRow("barn 1 1;air 50;", 0, 0, 5);
        // Roots that are nearly one more are cut down too: 5003.998 by 139, 4004.997 by 89, 6489.992 by 118.
        dueRow("barn 1 25;air 139;", 0, 0, 35);
        dueRow("barn 20 1;air 89;", 0, 0, 44);
        dueRow("barn 18 27;air 118;", 0, 0, 54);
        // The longest ways.
        dueRow("barn 40 40;air 50;", 0, 0, 226);
        dueRow("barn 40 40;air 150;", 0, 0, 75);
        dueRow("level 40 0 40;upright 40 0 40;air 50;", 0, 0, 160, 160, 226);
        // A whole root, cut down by nothing.
        dueRow("barn 24 32;", 0, 0, 80);
        dueRow("barn 24 32;air 50;", 0, 0, 160);
    }

    private static void rowInOrder() {
        Check.sentence("A ROW: TICKS of all HEARD echoes, the least first.");
        dueRow("barn 0 9;barn 0 3;barn 0 6;barn 0 1;barn 0 8;barn 0 2;", 0, 0, 2, 4, 6, 12, 16, 18);
        dueRow("barn 0 3;barn 3 0;barn 0 2;barn 2 0;", 0, 0, 4, 4, 6, 6);
        dueRow("barn 0 9;upright 1 0 9;level 30 0 9;", 0, 0, 2, 18, 60, 60);
    }

    private static void nothingAndAll() {
        Check.sentence("Of a CLAP: how many HEARD echoes (i NONE); the i-th TICK of the ROW.");
        dueRow("", 20, 20);
        dueRow("wood 0 0 40 40 0 0 0;", 20, 20);
        // Four walls, six pairs of them, six barns.
        dueRow("upright 0 0 40;level 0 0 40;upright 40 0 40;level 40 0 40;upright 40 1 2;level 40 1 2;barn 10 31;barn 10 32;"
                + "barn 10 33;barn 10 34;barn 10 35;barn 10 36;", 10, 30, 2, 4, 6, 8, 10, 12, 20, 20, 28, 60, 60, 63, 63, 80, 80, 84);
    }

    private static void thereIsNone() {
        Check.sentence("there is none.");
        ClapValley valley = Check.valleyOf("barn 3 4;barn 0 4;");
        Check.due("clap(.., 0)", 8, valley.clap(0, 0, 0, 0, 0, 0));
        Check.due("clap(.., 1)", 10, valley.clap(0, 0, 0, 0, 0, 1));
        Check.dueNone(valley, "clap(.., 2)", () -> valley.clap(0, 0, 0, 0, 0, 2));
        Check.dueNone(valley, "clap(.., 16)", () -> valley.clap(0, 0, 0, 0, 0, 16));
        Check.dueNone(valley, "clap(.., -2)", () -> valley.clap(0, 0, 0, 0, 0, -2));
        for (int far : Check.FAR) {
            Check.dueNone(valley, "clap(.., " + far + ")", () -> valley.clap(0, 0, 0, 0, 0, far));
        }
        Check.dueNone(valley, "clap(.., 0) of an empty land", () -> valley.clap(1, 0, 0, 0, 0, 0));
    }

    private static void wrongInputs() {
        Check.sentence("NoSuchElementException: also no such PLACE, year, TONE (as everywhere)");
        ClapValley valley = new ClapValley();
        int[] last = {5, 40, 40, 99, 2};
        for (int k = 0; k < 5; k++) {
            int[] good = {0, 0, 0, 0, 0};
            good[k] = last[k];
            Check.due("clap of the last allowed", 0, valley.clap(good[0], good[1], good[2], good[3], good[4], -1));
            for (int value : new int[] {-1, last[k] + 1, Check.FAR[0], Check.FAR[1], Check.FAR[2], Check.FAR[3]}) {
                int[] w = {0, 0, 0, 0, 0};
                w[k] = value;
                Check.dueNone(valley, "clap, input " + k + " being " + value, () -> valley.clap(w[0], w[1], w[2], w[3], w[4], -1));
            }
        }
        Check.dueNone(valley, "clap at no place", () -> valley.clap(0, -1, -1, 0, 0, -1));
    }
}
