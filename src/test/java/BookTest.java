/** Promises 9 to 16: station, tick, told, fits, where, airs, whose, gone. */
public final class BookTest {
    public static void main(String[] args) {
        stations();
        ticks();
        told();
        fits();
        where();
        airs();
        whose();
        gone();
        goneBehind();
        goneOfSeveral();
        Check.end();
    }

    private static void stations() {
        ClapValley valley = new ClapValley();
        int[][] wrong = {{-1, 0, 0, 0}, {0, -1, 0, 0}, {41, 0, 0, 0}, {0, 41, 0, 0}, {-2, -2, 0, 0}, {0, 0, -1, 0},
            {0, 0, 100, 0}, {0, 0, 0, -1}, {0, 0, 0, 3}, {-1, -1, 100, 0}, {-1, -1, 0, 3}};
        for (int[] w : wrong) {
            Check.due("wrong station", -1, valley.station(w[0], w[1], w[2], w[3]));
        }
        Check.due("count(4)", 11, valley.count(4));
        for (int s = 0; s < 20; s++) {
            boolean unnamed = s % 3 == 1;
            Check.due("station", s, valley.station(unnamed ? -1 : 40, unnamed ? -1 : s, 99, 2));
        }
        Check.due("the 21st station", -1, valley.station(0, 0, 0, 0));
        Check.due("count(4)", 12, valley.count(4));
        Check.due("count(1)", 20, valley.count(1));
    }

    private static void ticks() {
        ClapValley valley = new ClapValley();
        Check.dueNone("tick(0, 1)", () -> valley.tick(0, 1));
        Check.dueNone("tick(0, -1)", () -> valley.tick(0, -1));
        valley.station(0, 0, 0, 0);
        Check.dueNone("tick(1, 1)", () -> valley.tick(1, 1));
        Check.dueNone("tick(-1, 10000)", () -> valley.tick(-1, 10000));
        Check.due("count(5)", 0, valley.count(5));
        Check.due("tick -1", -1, valley.tick(0, -1));
        Check.due("tick 10000", -1, valley.tick(0, 10000));
        for (int k = 1; k <= 12; k++) {
            Check.due("tick " + k, k, valley.tick(0, k % 2 == 0 ? 0 : 9999));
        }
        Check.due("the 13th tick", -1, valley.tick(0, 5));
        Check.due("count(5)", 3, valley.count(5));
        valley.clear();
        Check.dueNone("tick(0, 1) behind clear", () -> valley.tick(0, 1));
    }

    private static void told() {
        ClapValley valley = new ClapValley();
        Check.dueNone("told(0, 0)", () -> valley.told(0, 0));
        Check.write(valley, 3, 7, 42, 2, 30, 10, 20);
        Check.write(valley, -1, -1, 5, 1);
        int[] due = {3, 7, 42, 2, 3};
        for (int what = 0; what < 5; what++) {
            Check.due("told(0, " + what + ")", due[what], valley.told(0, what));
        }
        Check.due("told(0, 10)", 30, valley.told(0, 10));
        Check.due("told(0, 11)", 10, valley.told(0, 11));
        Check.due("told(0, 12)", 20, valley.told(0, 12));
        for (int what : new int[] {-1, 5, 9, 13, 22, Integer.MAX_VALUE, Integer.MIN_VALUE}) {
            Check.dueNone("told(0, " + what + ")", () -> valley.told(0, what));
        }
        Check.due("told(1, 0)", -1, valley.told(1, 0));
        Check.due("told(1, 1)", -1, valley.told(1, 1));
        Check.due("told(1, 2)", 5, valley.told(1, 2));
        Check.dueNone("told(1, 10)", () -> valley.told(1, 10));
        Check.dueNone("told(2, 0)", () -> valley.told(2, 0));
        Check.dueNone("told(-1, 0)", () -> valley.told(-1, 0));
    }

    private static void dueFit(ClapValley valley, boolean due, int x, int y, int year, int tone, int... ticks) {
        int station = Check.write(valley, x, y, year, tone, ticks);
        Check.due("fits(0, " + station + ")", due, valley.fits(0, station));
    }

    private static void fits() {
        ClapValley valley = Check.valleyOf("upright 10 0 20;upright 2 0 20;barn 6 9 years 5 9;wood 6 7 6 7 99 0 0;");
        dueFit(valley, true, 6, 5, 0, 0, 8, 16, 8);
        dueFit(valley, false, 6, 5, 0, 0, 8, 16, 16);
        dueFit(valley, false, 6, 5, 0, 0, 8, 16);
        dueFit(valley, false, 6, 5, 0, 0, 8, 16, 8, 8);
        dueFit(valley, false, 6, 5, 5, 0, 8, 16, 8, 8);
        dueFit(valley, true, 6, 5, 5, 1, 8, 16, 8, 8);
        dueFit(valley, false, -1, -1, 0, 0, 8, 16, 8);
        dueFit(valley, true, 6, 21, 0, 0);
        dueFit(valley, false, 6, 21, 0, 0, 0);
        Check.due("fits(1, 7)", true, valley.fits(1, 7));
        Check.due("fits(1, 0)", false, valley.fits(1, 0));
        Check.dueNone("fits(6, 0)", () -> valley.fits(6, 0) ? 1 : 0);
        Check.dueNone("fits(-1, 0)", () -> valley.fits(-1, 0) ? 1 : 0);
        Check.dueNone("fits(0, 9)", () -> valley.fits(0, 9) ? 1 : 0);
        // By the land's air.
        Check.tell(valley, 0, "upright 10 0 20;upright 2 0 20;air 50;");
        dueFit(valley, true, 6, 5, 0, 0, 32, 16, 16);
        // An echo just as strong as the land hears belongs to the row.
        Check.tell(valley, 0, "upright 10 0 20 loss 50;hears 500;");
        dueFit(valley, true, 6, 5, 0, 0, 8);
        Check.due("where", 42, valley.where(0, valley.count(1) - 1, -1));
        Check.due("whose", 1, valley.whose(0, valley.count(1) - 1, 0, 0));
        Check.due("whose", 0, valley.whose(0, valley.count(1) - 1, 0, 1));
        Check.tell(valley, 0, "upright 10 0 20 loss 50;hears 501;");
        dueFit(valley, true, 6, 5, 0, 0);
        // More than twelve echoes are in no book.
        Check.tell(valley, 0, "upright 0 0 40;level 0 0 40;upright 40 0 40;level 40 0 40;barn 1 1;barn 1 2;barn 1 3;");
        Check.due("13 echoes", 13, valley.clap(0, 10, 30, 0, 0, -1));
        dueFit(valley, false, 10, 30, 0, 0, 20, 20, 28, 60, 60, 63, 63, 80, 80, 84, 56, 59);
    }

    private static void where() {
        ClapValley valley = Check.valleyOf("upright 10 0 40;");
        Check.write(valley, -1, -1, 0, 0, 8);
        Check.write(valley, 1, 1, 0, 0, 8);
        Check.write(valley, -1, -1, 0, 0);
        for (int station = 0; station < 2; station++) {
            int s = station;
            Check.due("where, how many", 82, valley.where(0, s, -1));
            Check.due("where, 0", 6, valley.where(0, s, 0));
            Check.due("where, 1", 14, valley.where(0, s, 1));
            Check.due("where, 2", 47, valley.where(0, s, 2));
            Check.due("where, 81", 1654, valley.where(0, s, 81));
            Check.dueNone("where, 82", () -> valley.where(0, s, 82));
            Check.dueNone("where, -2", () -> valley.where(0, s, -2));
        }
        Check.due("where nothing is heard", 41, valley.where(0, 2, -1));
        Check.due("where in an empty land", 1681, valley.where(1, 2, -1));
        Check.due("where in an empty land, the last", 1680, valley.where(1, 2, 1680));
        Check.due("where in an empty land", 0, valley.where(1, 0, -1));
        Check.dueNone("where in an empty land", () -> valley.where(1, 0, 0));
        Check.dueNone("where(6, 0, -1)", () -> valley.where(6, 0, -1));
        Check.dueNone("where(0, 3, -1)", () -> valley.where(0, 3, -1));
    }

    private static void dueAirs(ClapValley valley, int land, int station, int many, int least, int greatest) {
        Check.due("airs 0", many, valley.airs(land, station, 0));
        Check.due("airs 1", least, valley.airs(land, station, 1));
        Check.due("airs 2", greatest, valley.airs(land, station, 2));
        Check.dueNone("airs 3", () -> valley.airs(land, station, 3));
        Check.dueNone("airs -1", () -> valley.airs(land, station, -1));
    }

    private static void airs() {
        ClapValley valley = Check.valleyOf("upright 10 0 20;air 130;");
        Check.write(valley, 6, 5, 0, 0, 8);
        Check.write(valley, 6, 30, 0, 0);
        Check.write(valley, 6, 5, 0, 0, 16);
        Check.write(valley, 6, 5, 0, 0, 17);
        Check.write(valley, -1, -1, 0, 0, 8);
        Check.write(valley, 6, 5, 0, 0, 5);
        dueAirs(valley, 0, 0, 12, 89, 100);
        dueAirs(valley, 0, 1, 101, 50, 150);
        dueAirs(valley, 0, 2, 1, 50, 50);
        dueAirs(valley, 0, 3, 0, -1, -1);
        dueAirs(valley, 0, 5, 17, 134, 150);
        dueAirs(valley, 1, 0, 0, -1, -1);
        Check.dueNone("airs of an unnamed one", () -> valley.airs(0, 4, 0));
        Check.dueNone("airs(6, ..)", () -> valley.airs(6, 0, 0));
        Check.dueNone("airs(.., 6, ..)", () -> valley.airs(0, 6, 0));
        // 1200 by an air is 8 from 134 to 150, 2000 by an air is 13 from 143 on.
        Check.tell(valley, 2, "barn 0 6;barn 0 10;");
        Check.write(valley, 0, 0, 0, 0, 13, 8);
        dueAirs(valley, 2, 6, 8, 143, 150);
    }

    private static void whose() {
        ClapValley valley = Check.valleyOf("barn 6 9;upright 30 0 20 loss 95;upright 10 0 20;upright 2 0 20;");
        Check.write(valley, 6, 5, 0, 0, 16, 8, 9, 8);
        Check.write(valley, -1, -1, 0, 0, 16, 8);
        int[][] due = {{1, 26}, {3, 1}, {0, -1}, {3, 1}};
        for (int i = 0; i < 4; i++) {
            Check.due("whose " + i + ", 0", due[i][0], valley.whose(0, 0, i, 0));
            Check.due("whose " + i + ", 1", due[i][1], valley.whose(0, 0, i, 1));
        }
        Check.dueNone("whose 4", () -> valley.whose(0, 0, 4, 0));
        Check.dueNone("whose -1", () -> valley.whose(0, 0, -1, 0));
        Check.dueNone("whose, what 2", () -> valley.whose(0, 0, 0, 2));
        Check.dueNone("whose, what -1", () -> valley.whose(0, 0, 0, -1));
        Check.dueNone("whose of an unnamed one", () -> valley.whose(0, 1, 0, 0));
        Check.dueNone("whose(6, ..)", () -> valley.whose(6, 0, 0, 0));
        Check.dueNone("whose(.., 2, ..)", () -> valley.whose(0, 2, 0, 0));
        // What isn't heard is nobody's.
        Check.tell(valley, 0, "barn 6 9 loss 95;barn 10 5;");
        Check.due("whose of the heard", 1, valley.whose(0, 0, 1, 0));
        Check.due("whose of the heard", 9, valley.whose(0, 0, 1, 1));
    }

    private static void dueGone(String text, int due, int... ticks) {
        ClapValley valley = Check.valleyOf(text);
        Check.write(valley, 0, 0, 3, 0, ticks);
        Check.due("gone of " + text, due, valley.gone(0, 3));
        Check.due("gone of a year without stations", 0, valley.gone(0, 4));
    }

    private static void gone() {
        String text = "barn 0 4;barn 0 8;upright 10 0 20;";
        dueGone(text, 0, 20, 16, 8);
        dueGone(text, 256, 8, 16);
        dueGone(text, 3, 20);
        dueGone(text, 258, 8);
        dueGone(text, 1, 16, 20);
        dueGone(text, 259);
        dueGone(text, -1, 7);
        dueGone(text, -1, 8, 8);
        ClapValley valley = Check.valleyOf(text);
        Check.write(valley, -1, -1, 3, 0, 7);
        Check.due("gone of unnamed ones", 0, valley.gone(0, 3));
        Check.dueNone("gone(6, 3)", () -> valley.gone(6, 3));
        Check.dueNone("gone(-1, 3)", () -> valley.gone(-1, 3));
        Check.dueNone("gone(0, 100)", () -> valley.gone(0, 100));
        Check.dueNone("gone(0, -1)", () -> valley.gone(0, -1));
    }

    private static void goneBehind() {
        // As few, the least as bits.
        dueGone("barn 0 4;barn 0 4;", 1, 8);
        dueGone("upright 4 0 9;barn 0 4;", 1, 8);
        dueGone("upright 4 0 9;upright 4 0 9;", 0, 8);
        // What is gone hides no more, and what was behind is heard.
        dueGone("level 2 0 5;barn 0 4;", 256, 8);
        dueGone("level 2 0 5;barn 0 4;", 0, 4);
        dueGone("level 2 0 5;barn 0 4;", 257);
        dueGone("level 2 0 5;barn 0 4;", -1, 4, 8);
        dueGone("upright 20 0 5;upright 10 0 5;", 512, 40);
        dueGone("upright 20 0 5;upright 10 0 5;", 768);
        // Of twelve all but one: both walls at 9 could be left, the last one makes the least bits.
        dueGone("barn 0 1;barn 0 2;barn 0 3;barn 0 4;barn 0 5;barn 0 6;"
                + "upright 7 0 1;upright 8 0 1;upright 9 0 1;level 7 0 1;level 8 0 1;level 9 0 1;", 7999, 18);
    }

    private static void goneOfSeveral() {
        ClapValley valley = Check.valleyOf("barn 0 4;barn 10 4;barn 20 4 years 0 2;");
        Check.write(valley, 0, 0, 3, 0, 8);
        Check.due("gone of one", 2, valley.gone(0, 3));
        Check.write(valley, 10, 0, 3, 1, 8, 21);
        Check.due("gone of two that do not agree", -1, valley.gone(0, 3));
        valley.clear();
        Check.write(valley, 0, 0, 3, 0, 8, 21);
        Check.write(valley, 10, 0, 3, 1, 8, 21);
        Check.write(valley, 10, 0, 4, 1);
        Check.due("gone of two that agree", 0, valley.gone(0, 3));
        Check.due("gone of the other year", 3, valley.gone(0, 4));
        fullBook();
    }

    private static void fullBook() {
        ClapValley valley = Check.valleyOf("barn 0 4;level 20 0 40;barn 40 40;");
        for (int s = 0; s < 20; s++) {
            Check.write(valley, s, 0, 3, 0, 40);
        }
        Check.due("gone of 20 stations", 1, valley.gone(0, 3));
        // The line at y 20, and perhaps the one on which they all lie.
        Check.due("plans of 20 stations", 2, valley.plans(3, 100, -1));
        Check.due("plans of 20 stations", 6889 * 62, valley.plans(3, 100, 0));
        Check.due("plans of 20 stations", 6889 * 42 + 83 * 62, valley.plans(3, 100, 1));
        Check.due("gone of an empty land", -1, valley.gone(1, 3));
        valley.tick(19, 40);
        Check.due("gone of 20 stations, one otherwise", -1, valley.gone(0, 3));
        Check.due("plans of 20 stations, one otherwise", 0, valley.plans(3, 100, -1));
    }
}
