/** Promise 12: fits. */
public final class Promise12FitsTest {
    public static void main(String[] args) {
        putInOrder();
        nothingAndAll();
        tooManyEchoes();
        yearAndTone();
        byItsAir();
        heardOnes();
        unnamed();
        noSuch();
        Check.end();
    }

    private static void dueFit(ClapValley valley, boolean due, int x, int y, int year, int tone, int... ticks) {
        int station = Check.write(valley, x, y, year, tone, ticks);
        Check.due("fits(0, " + station + ")", due, valley.fits(0, station));
    }

    private static void putInOrder() {
        Check.sentence("It FITS a LAND (at a PLACE, by an AIR), if its TICKS, put in order, are the ROW.");
        ClapValley valley = Check.valleyOf("upright 10 0 20;upright 2 0 20;");
        dueFit(valley, true, 6, 5, 0, 0, 8, 8, 16);
        dueFit(valley, true, 6, 5, 0, 0, 8, 16, 8);
        dueFit(valley, true, 6, 5, 0, 0, 16, 8, 8);
        dueFit(valley, false, 6, 5, 0, 0, 8, 16, 16);
        dueFit(valley, false, 6, 5, 0, 0, 8, 16);
        dueFit(valley, false, 6, 5, 0, 0, 8, 8);
        dueFit(valley, false, 6, 5, 0, 0, 8, 16, 8, 8);
        dueFit(valley, false, 6, 5, 0, 0, 0, 8, 16, 8);
        dueFit(valley, false, 6, 5, 0, 0, 8, 17, 8);
        dueFit(valley, false, 6, 5, 0, 0, 8, 15, 8);
        dueFit(valley, false, 6, 5, 0, 0, 7, 8, 16);
        dueFit(valley, false, 6, 5, 0, 0, 8, 9, 16);
        dueFit(valley, false, 7, 5, 0, 0, 8, 8, 16);
        dueFit(valley, true, 7, 5, 0, 0, 6, 10, 16);
    }

    private static void nothingAndAll() {
        Check.sentence("TICKS as they were written (at most 12, in any order)");
        ClapValley valley = Check.valleyOf("upright 10 0 20;");
        dueFit(valley, true, 6, 21, 0, 0);
        dueFit(valley, false, 6, 21, 0, 0, 0);
        dueFit(valley, false, 6, 20, 0, 0);
        Check.due("fits(1, 0), an empty land", true, valley.fits(1, 0));
        Check.due("fits(1, 1), an empty land", false, valley.fits(1, 1));
        Check.tell(valley, 0, "upright 0 0 40;level 0 0 40;upright 40 0 40;level 40 0 40;barn 10 31;barn 10 32;");
        dueFit(valley, true, 10, 30, 0, 0, 84, 80, 63, 60, 28, 20, 2, 4, 20, 60, 63, 80);
        dueFit(valley, false, 10, 30, 0, 0, 85, 80, 63, 60, 28, 20, 2, 4, 20, 60, 63, 80);
        dueFit(valley, false, 10, 30, 0, 0, 84, 80, 63, 60, 28, 20, 2, 4, 20, 60, 63);
    }

    private static void tooManyEchoes() {
        Check.sentence("if its TICKS, put in order, are the ROW");
        ClapValley valley = Check.valleyOf("upright 0 0 40;level 0 0 40;upright 40 0 40;level 40 0 40;"
                + "barn 10 31;barn 10 32;barn 10 33;");
        Check.due("13 echoes", 13, valley.clap(0, 10, 30, 0, 0, -1));
        dueFit(valley, false, 10, 30, 0, 0, 2, 4, 6, 20, 20, 28, 60, 60, 63, 63, 80, 80);
        Check.tell(valley, 0, "upright 0 0 40;level 0 0 40;upright 40 0 40;level 40 0 40;"
                + "barn 10 31;barn 10 32;barn 10 33;barn 10 34;barn 10 35;barn 10 36;");
        Check.due("16 echoes", 16, valley.clap(0, 10, 30, 0, 0, -1));
        dueFit(valley, false, 10, 30, 0, 0, 2, 4, 6, 8, 10, 12, 20, 20, 28, 60, 60, 63);
    }

    private static void yearAndTone() {
        Check.sentence("a PLACE (or unnamed), a year, a TONE");
        ClapValley valley = Check.valleyOf("barn 6 9 years 5 9;wood 6 7 6 7 99 0 0;");
        dueFit(valley, true, 6, 5, 4, 1);
        dueFit(valley, true, 6, 5, 5, 1, 8);
        dueFit(valley, true, 6, 5, 9, 2, 8);
        dueFit(valley, true, 6, 5, 10, 1);
        dueFit(valley, false, 6, 5, 5, 0, 8);
        dueFit(valley, true, 6, 5, 5, 0);
    }

    private static void byItsAir() {
        Check.sentence("by its AIR");
        ClapValley valley = Check.valleyOf("upright 10 0 20;air 50;");
        dueFit(valley, true, 6, 5, 0, 0, 16);
        dueFit(valley, false, 6, 5, 0, 0, 8);
        Check.tell(valley, 0, "upright 10 0 20;air 150;");
        dueFit(valley, true, 6, 5, 0, 0, 5);
        dueFit(valley, false, 6, 5, 0, 0, 6);
    }

    private static void heardOnes() {
        Check.sentence("A ROW: TICKS of all HEARD echoes");
        ClapValley valley = Check.valleyOf("upright 10 0 20 loss 50;hears 500;");
        dueFit(valley, true, 6, 5, 0, 0, 8);
        dueFit(valley, false, 6, 5, 0, 0);
        Check.tell(valley, 0, "upright 10 0 20 loss 50;hears 501;");
        Check.due("fits(0, 0), unheard", false, valley.fits(0, 0));
        Check.due("fits(0, 1), unheard", true, valley.fits(0, 1));
    }

    private static void unnamed() {
        Check.sentence("False: it is unnamed.");
        ClapValley valley = Check.valleyOf("upright 10 0 40;upright 30 0 40;");
        dueFit(valley, false, -1, -1, 0, 0, 8);
        // Even if it would fit everywhere.
        Check.write(valley, -1, -1, 0, 0);
        Check.due("fits(1, 1)", false, valley.fits(1, 1));
        Check.due("where(1, 1, -1)", 1681, valley.where(1, 1, -1));
    }

    private static void noSuch() {
        Check.sentence("no such LAND (as everywhere), no such STATION (as everywhere)");
        ClapValley valley = new ClapValley();
        Check.dueNone(valley, "fits(0, 0) of no station", () -> valley.fits(0, 0) ? 1 : 0);
        valley.station(0, 0, 0, 0);
        valley.station(-1, -1, 0, 0);
        Check.due("fits(5, 0)", true, valley.fits(5, 0));
        for (int land : new int[] {-1, 6, Check.FAR[0], Check.FAR[1], Check.FAR[2], Check.FAR[3]}) {
            Check.dueNone(valley, "fits(" + land + ", 0)", () -> valley.fits(land, 0) ? 1 : 0);
            Check.dueNone(valley, "fits(" + land + ", 1)", () -> valley.fits(land, 1) ? 1 : 0);
        }
        for (int station : new int[] {-1, 2, 20, Check.FAR[0], Check.FAR[1], Check.FAR[2], Check.FAR[3]}) {
            Check.dueNone(valley, "fits(0, " + station + ")", () -> valley.fits(0, station) ? 1 : 0);
        }
    }
}
