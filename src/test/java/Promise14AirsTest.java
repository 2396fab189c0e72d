/** Promise 14: airs. */
public final class Promise14AirsTest {
    public static void main(String[] args) {
        leastAndGreatest();
        allAirs();
        oneAir();
        noAir();
        ofAllTicks();
        itsPlaceYearTone();
        unnamed();
        anotherWhat();
        noSuch();
        Check.end();
    }

    private static void dueAirs(ClapValley valley, int land, int station, int many, int least, int greatest) {
        String call = "airs(" + land + ", " + station + ", ";
        Check.due(call + "0)", many, valley.airs(land, station, 0));
        Check.due(call + "1)", least, valley.airs(land, station, 1));
        Check.due(call + "2)", greatest, valley.airs(land, station, 2));
    }

    private static void leastAndGreatest() {
        Check.sentence("how many (what 0), the least (1), the greatest (2");
        ClapValley valley = Check.valleyOf("upright 10 0 20;");
        Check.write(valley, 6, 5, 0, 0, 8);
        // 800 by 88 is 9, by 89 is 8, by 100 is 8, by 101 is 7.
        dueAirs(valley, 0, 0, 12, 89, 100);
        // Whatever the land's own air is.
        Check.tell(valley, 0, "upright 10 0 20;air 130;");
        dueAirs(valley, 0, 0, 12, 89, 100);
    }

    private static void allAirs() {
        Check.sentence("AIRS: 50 to 150 by which it FITS at its PLACE");
        ClapValley valley = new ClapValley();
        Check.write(valley, 6, 30, 0, 0);
        dueAirs(valley, 0, 0, 101, 50, 150);
        Check.tell(valley, 0, "upright 10 0 20;");
        dueAirs(valley, 0, 0, 101, 50, 150);
        // Up to 150, no further: 800 by 134 to 160 is 5; by 51 to 53 it is 15.
        Check.write(valley, 6, 5, 0, 0, 5);
        dueAirs(valley, 0, 1, 17, 134, 150);
        Check.write(valley, 6, 5, 0, 0, 15);
        dueAirs(valley, 0, 2, 3, 51, 53);
    }

    private static void oneAir() {
        Check.sentence("AIRS: 50 to 150");
        ClapValley valley = Check.valleyOf("upright 10 0 20;");
        Check.write(valley, 6, 5, 0, 0, 16);
        dueAirs(valley, 0, 0, 1, 50, 50);
        // 7600 is 51 from 147 to 149 and 50 from 150 on.
        Check.tell(valley, 1, "barn 0 38;");
        Check.write(valley, 0, 0, 0, 0, 50);
        dueAirs(valley, 1, 1, 1, 150, 150);
        Check.write(valley, 0, 0, 0, 0, 51);
        dueAirs(valley, 1, 2, 3, 147, 149);
    }

    private static void noAir() {
        Check.sentence("NONE both of none, 0 of 0");
        ClapValley valley = Check.valleyOf("upright 10 0 20;");
        Check.write(valley, 6, 5, 0, 0, 17);
        dueAirs(valley, 0, 0, 0, -1, -1);
        Check.write(valley, 6, 5, 0, 0, 4);
        dueAirs(valley, 0, 1, 0, -1, -1);
        Check.write(valley, 6, 5, 0, 0);
        dueAirs(valley, 0, 2, 0, -1, -1);
        Check.write(valley, 6, 5, 0, 0, 8, 8);
        dueAirs(valley, 0, 3, 0, -1, -1);
        Check.write(valley, 6, 5, 0, 0, 9999);
        dueAirs(valley, 0, 4, 0, -1, -1);
        dueAirs(valley, 1, 0, 0, -1, -1);
    }

    private static void ofAllTicks() {
        Check.sentence("by which it FITS at its PLACE");
        // 1200 by an air is 8 from 134 to 150, 2000 by an air is 13 from 143 on.
        ClapValley valley = Check.valleyOf("barn 0 6;barn 0 10;");
        Check.write(valley, 0, 0, 0, 0, 13, 8);
        dueAirs(valley, 0, 0, 8, 143, 150);
        // As many as a station can have, and more echoes than that.
        Check.tell(valley, 1, "upright 0 0 40;level 0 0 40;upright 40 0 40;level 40 0 40;barn 10 31;barn 10 32;");
        Check.write(valley, 10, 30, 0, 0, 2, 4, 20, 20, 28, 60, 60, 63, 63, 80, 80, 84);
        dueAirs(valley, 1, 1, 1, 100, 100);
        Check.tell(valley, 1, "upright 0 0 40;level 0 0 40;upright 40 0 40;level 40 0 40;barn 10 31;barn 10 32;barn 10 33;");
        dueAirs(valley, 1, 1, 0, -1, -1);
    }

    private static void itsPlaceYearTone() {
        Check.sentence("at its PLACE");
        ClapValley valley = Check.valleyOf("barn 0 4 years 3 3;wood 0 2 0 2 99 0 0;");
        Check.write(valley, 0, 0, 3, 1, 8);
        Check.write(valley, 0, 0, 3, 0, 8);
        Check.write(valley, 0, 0, 4, 1, 8);
        Check.write(valley, 0, 1, 3, 1, 8);
        dueAirs(valley, 0, 0, 12, 89, 100);
        dueAirs(valley, 0, 1, 0, -1, -1);
        dueAirs(valley, 0, 2, 0, -1, -1);
        dueAirs(valley, 0, 3, 9, 67, 75);
    }

    private static void unnamed() {
        Check.sentence("NoSuchElementException: also it is unnamed");
        ClapValley valley = new ClapValley();
        Check.write(valley, -1, -1, 0, 0);
        for (int what = -1; what < 4; what++) {
            int w = what;
            Check.dueNone(valley, "airs(0, 0, " + w + ")", () -> valley.airs(0, 0, w));
        }
    }

    private static void anotherWhat() {
        Check.sentence("another what");
        ClapValley valley = new ClapValley();
        Check.write(valley, 0, 0, 0, 0);
        Check.write(valley, 0, 0, 0, 0, 1);
        for (int what : new int[] {-1, 3, Check.FAR[0], Check.FAR[1], Check.FAR[2], Check.FAR[3]}) {
            Check.dueNone(valley, "airs(0, 0, " + what + ")", () -> valley.airs(0, 0, what));
            Check.dueNone(valley, "airs(0, 1, " + what + ")", () -> valley.airs(0, 1, what));
        }
    }

    private static void noSuch() {
        Check.sentence("no such LAND (as everywhere), no such STATION (as everywhere)");
        ClapValley valley = new ClapValley();
        Check.dueNone(valley, "airs(0, 0, 0) of no station", () -> valley.airs(0, 0, 0));
        valley.station(0, 0, 0, 0);
        Check.due("airs(5, 0, 0)", 101, valley.airs(5, 0, 0));
        for (int land : new int[] {-1, 6, Check.FAR[0], Check.FAR[1], Check.FAR[2], Check.FAR[3]}) {
            Check.dueNone(valley, "airs(" + land + ", 0, 0)", () -> valley.airs(land, 0, 0));
        }
        for (int station : new int[] {-1, 1, 20, Check.FAR[0], Check.FAR[1], Check.FAR[2], Check.FAR[3]}) {
            Check.dueNone(valley, "airs(0, " + station + ", 0)", () -> valley.airs(0, station, 0));
        }
    }
}
