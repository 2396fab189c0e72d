/** Promise 11: told. */
public final class Promise11ToldTest {
    public static void main(String[] args) {
        each();
        ofTheUnnamed();
        asWritten();
        anotherWhat();
        noSuchStation();
        Check.end();
    }

    private static void each() {
        Check.sentence("Of a STATION: 0 x, 1 y (NONE both), 2 year, 3 TONE, 4 TICKS");
        ClapValley valley = new ClapValley();
        Check.write(valley, 3, 7, 42, 2, 30, 10, 20);
        Check.write(valley, 0, 40, 0, 0);
        Check.write(valley, 40, 0, 99, 1, 5);
        int[][] due = {{3, 7, 42, 2, 3}, {0, 40, 0, 0, 0}, {40, 0, 99, 1, 1}};
        for (int s = 0; s < 3; s++) {
            for (int what = 0; what < 5; what++) {
                Check.due("told(" + s + ", " + what + ")", due[s][what], valley.told(s, what));
            }
        }
    }

    private static void ofTheUnnamed() {
        Check.sentence("0 x, 1 y (NONE both)");
        ClapValley valley = new ClapValley();
        Check.write(valley, -1, -1, 5, 1, 8);
        int[] due = {-1, -1, 5, 1, 1};
        for (int what = 0; what < 5; what++) {
            Check.due("told(0, " + what + ")", due[what], valley.told(0, what));
        }
    }

    private static void asWritten() {
        Check.sentence("10 and i the i-th as written");
        ClapValley valley = new ClapValley();
        Check.write(valley, 0, 0, 0, 0, 30, 10, 20);
        Check.due("told(0, 10)", 30, valley.told(0, 10));
        Check.due("told(0, 11)", 10, valley.told(0, 11));
        Check.due("told(0, 12)", 20, valley.told(0, 12));
        Check.dueNone(valley, "told(0, 13)", () -> valley.told(0, 13));
        Check.write(valley, -1, -1, 0, 0);
        Check.dueNone(valley, "told(1, 10) of no tick", () -> valley.told(1, 10));
        Check.write(valley, 0, 0, 0, 0, 12, 11, 10, 9, 8, 7, 6, 5, 4, 3, 2, 1);
        Check.due("told(2, 10)", 12, valley.told(2, 10));
        Check.due("told(2, 21)", 1, valley.told(2, 21));
        Check.dueNone(valley, "told(2, 22)", () -> valley.told(2, 22));
        // What an earlier station of that number had is no more.
        valley.clear();
        Check.write(valley, 0, 0, 0, 0, 7);
        Check.due("told(0, 10) behind clear", 7, valley.told(0, 10));
        Check.dueNone(valley, "told(0, 11) behind clear", () -> valley.told(0, 11));
    }

    private static void anotherWhat() {
        Check.sentence("NoSuchElementException: also another what.");
        ClapValley valley = new ClapValley();
        Check.write(valley, 0, 0, 0, 0, 1, 2, 3, 4, 5, 6, 7, 8, 9, 10, 11, 12);
        for (int what : new int[] {-10, -2, -1, 5, 6, 7, 8, 9, 22, 23}) {
            Check.dueNone(valley, "told(0, " + what + ")", () -> valley.told(0, what));
        }
        for (int far : Check.FAR) {
            Check.dueNone(valley, "told(0, " + far + ")", () -> valley.told(0, far));
        }
    }

    private static void noSuchStation() {
        Check.sentence("no such STATION (as everywhere)");
        ClapValley valley = new ClapValley();
        Check.dueNone(valley, "told(0, 0) of no station", () -> valley.told(0, 0));
        valley.station(0, 0, 0, 0);
        Check.dueNone(valley, "told(1, 0)", () -> valley.told(1, 0));
        Check.dueNone(valley, "told(-1, 0)", () -> valley.told(-1, 0));
        for (int far : Check.FAR) {
            Check.dueNone(valley, "told(" + far + ", 0)", () -> valley.told(far, 0));
        }
        for (int s = 1; s < 20; s++) {
            valley.station(s, 0, 0, 0);
        }
        Check.due("told(19, 0)", 19, valley.told(19, 0));
        Check.dueNone(valley, "told(20, 0)", () -> valley.told(20, 0));
    }
}
