/** Promise 13: where. */
public final class Promise13WhereTest {
    public static void main(String[] args) {
        inOrder();
        allPlaces();
        onePlace();
        noPlace();
        namedToo();
        yearToneAir();
        thereIsNone();
        noSuch();
        Check.end();
    }

    private static void inOrder() {
        Check.sentence("all PLACES at which it FITS, y from 0 on, x from 0 on: how many, the i-th");
        ClapValley valley = Check.valleyOf("upright 10 0 40;");
        Check.write(valley, -1, -1, 0, 0, 8);
        Check.due("where, how many", 82, valley.where(0, 0, -1));
        for (int i = 0; i < 82; i++) {
            Check.due("where, " + i, 41 * (i / 2) + (i % 2 == 0 ? 6 : 14), valley.where(0, 0, i));
        }
        Check.dueNone(valley, "where, 82", () -> valley.where(0, 0, 82));
        Check.tell(valley, 0, "level 10 0 40;");
        for (int i = 0; i < 82; i++) {
            Check.due("where, " + i, 41 * (i < 41 ? 6 : 14) + i % 41, valley.where(0, 0, i));
        }
    }

    private static void allPlaces() {
        Check.sentence("the i-th: 41 by its y and its x");
        ClapValley valley = new ClapValley();
        Check.write(valley, -1, -1, 0, 0);
        Check.due("where in an empty land", 1681, valley.where(0, 0, -1));
        for (int i : new int[] {0, 1, 40, 41, 1639, 1640, 1680}) {
            Check.due("where in an empty land, " + i, i, valley.where(0, 0, i));
        }
        Check.dueNone(valley, "where in an empty land, 1681", () -> valley.where(0, 0, 1681));
    }

    private static void onePlace() {
        Check.sentence("WHERE a STATION was: all PLACES at which it FITS");
        // Only a corner has both walls so far away, and a barn is at another corner.
        int[][] corners = {{0, 0}, {40, 0}, {0, 40}, {40, 40}};
        for (int[] corner : corners) {
            ClapValley valley = Check.valleyOf("upright " + (40 - corner[0]) + " 0 40;level " + (40 - corner[1]) + " 0 40;");
            Check.write(valley, -1, -1, 0, 0, 80, 80, 113);
            Check.due("where, how many", 1, valley.where(0, 0, -1));
            Check.due("where, 0", 41 * corner[1] + corner[0], valley.where(0, 0, 0));
            Check.dueNone(valley, "where, 1", () -> valley.where(0, 0, 1));
        }
    }

    private static void noPlace() {
        Check.sentence("how many (i NONE)");
        ClapValley valley = Check.valleyOf("upright 10 0 40;");
        Check.write(valley, -1, -1, 0, 0, 7);
        Check.write(valley, -1, -1, 0, 0, 8, 8);
        Check.write(valley, -1, -1, 0, 0, 8);
        Check.write(valley, -1, -1, 0, 0);
        Check.due("where, an odd tick", 0, valley.where(0, 0, -1));
        Check.due("where, a tick too many", 0, valley.where(0, 1, -1));
        Check.due("where, in an empty land", 0, valley.where(1, 2, -1));
        Check.dueNone(valley, "where, 0", () -> valley.where(0, 0, 0));
        Check.due("where nothing is heard", 41, valley.where(0, 3, -1));
        Check.due("where nothing is heard, 40", 1650, valley.where(0, 3, 40));
    }

    private static void namedToo() {
        Check.sentence("WHERE a STATION was");
        ClapValley valley = Check.valleyOf("upright 10 0 40;");
        Check.write(valley, 1, 1, 0, 0, 8);
        Check.due("where of a named one, how many", 82, valley.where(0, 0, -1));
        Check.due("where of a named one, 0", 6, valley.where(0, 0, 0));
    }

    private static void yearToneAir() {
        Check.sentence("all PLACES at which it FITS");
        ClapValley valley = Check.valleyOf("barn 20 20 years 3 3;wood 20 21 20 40 99 0 0;air 50;");
        Check.write(valley, -1, -1, 3, 1, 4);
        Check.write(valley, -1, -1, 3, 0, 4);
        Check.write(valley, -1, -1, 4, 1, 4);
        Check.due("where by tone 1", 4, valley.where(0, 0, -1));
        Check.due("where by tone 1, 0", 41 * 19 + 20, valley.where(0, 0, 0));
        Check.due("where by tone 1, 1", 41 * 20 + 19, valley.where(0, 0, 1));
        Check.due("where by tone 1, 2", 41 * 20 + 21, valley.where(0, 0, 2));
        Check.due("where by tone 1, 3", 41 * 21 + 20, valley.where(0, 0, 3));
        Check.due("where by tone 0", 3, valley.where(0, 1, -1));
        Check.due("where in another year", 0, valley.where(0, 2, -1));
    }

    private static void thereIsNone() {
        Check.sentence("NoSuchElementException: also there is none.");
        ClapValley valley = new ClapValley();
        Check.write(valley, -1, -1, 0, 0);
        for (int i : new int[] {-2, 1681, Check.FAR[0], Check.FAR[1], Check.FAR[2], Check.FAR[3]}) {
            Check.dueNone(valley, "where(0, 0, " + i + ")", () -> valley.where(0, 0, i));
        }
    }

    private static void noSuch() {
        Check.sentence("no such LAND (as everywhere), no such STATION (as everywhere)");
        ClapValley valley = new ClapValley();
        Check.dueNone(valley, "where(0, 0, -1) of no station", () -> valley.where(0, 0, -1));
        valley.station(0, 0, 0, 0);
        Check.due("where(5, 0, -1)", 1681, valley.where(5, 0, -1));
        for (int land : new int[] {-1, 6, Check.FAR[0], Check.FAR[1], Check.FAR[2], Check.FAR[3]}) {
            Check.dueNone(valley, "where(" + land + ", 0, -1)", () -> valley.where(land, 0, -1));
        }
        for (int station : new int[] {-1, 1, 20, Check.FAR[0], Check.FAR[1], Check.FAR[2], Check.FAR[3]}) {
            Check.dueNone(valley, "where(0, " + station + ", -1)", () -> valley.where(0, station, -1));
        }
    }
}
