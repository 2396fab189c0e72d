/** Promise 9: station. */
public final class Promise09StationTest {
    public static void main(String[] args) {
        itsNumber();
        places();
        unnamed();
        yearsAndTones();
        noneOfTwenty();
        notAsTold();
        oneRefusalACall();
        Check.end();
    }

    private static void itsNumber() {
        Check.sentence("A STATION at a PLACE (x, y NONE both: unnamed): its number.");
        ClapValley valley = new ClapValley();
        for (int s = 0; s < 20; s++) {
            boolean unnamed = s % 3 == 1;
            Check.due("station", s, valley.station(unnamed ? -1 : 40 - s, unnamed ? -1 : s, 99 - s, s % 3));
            Check.due("count(1)", s + 1, valley.count(1));
        }
        for (int s = 0; s < 20; s++) {
            boolean unnamed = s % 3 == 1;
            dueTold(valley, s, unnamed ? -1 : 40 - s, unnamed ? -1 : s, 99 - s, s % 3);
        }
        // One place may have several.
        valley.clear();
        Check.due("station behind clear", 0, valley.station(3, 4, 5, 1));
        Check.due("the same station again", 1, valley.station(3, 4, 5, 1));
    }

    private static void dueTold(ClapValley valley, int station, int x, int y, int year, int tone) {
        int[] due = {x, y, year, tone, 0};
        for (int what = 0; what < 5; what++) {
            Check.due("told(" + station + ", " + what + ")", due[what], valley.told(station, what));
        }
    }

    private static void dueStation(int x, int y, int year, int tone, boolean allowed) {
        ClapValley valley = new ClapValley();
        valley.station(1, 2, 3, 2);
        String call = "station(" + x + ", " + y + ", " + year + ", " + tone + ")";
        if (allowed) {
            Check.due(call, 1, valley.station(x, y, year, tone));
            dueTold(valley, 1, x, y, year, tone);
            Check.dueCounts(valley, "behind " + call, 0, 2, 0, 0, 0, 0, 0);
        } else {
            Check.dueRefused(valley, 1, call, () -> valley.station(x, y, year, tone));
        }
    }

    private static void places() {
        Check.sentence("PLACES are x and y (0 to 40 both)");
        for (int end : new int[] {0, 40}) {
            dueStation(end, 7, 0, 0, true);
            dueStation(7, end, 0, 0, true);
        }
        for (int wrong : new int[] {-2, -1, 41, Check.FAR[0], Check.FAR[1], Check.FAR[2], Check.FAR[3]}) {
            dueStation(wrong, 7, 0, 0, false);
            dueStation(7, wrong, 0, 0, false);
            dueStation(wrong, 0, 0, 0, false);
            dueStation(0, wrong, 0, 0, false);
        }
        dueStation(40, 41, 0, 0, false);
        dueStation(41, 40, 0, 0, false);
    }

    private static void unnamed() {
        Check.sentence("(x, y NONE both: unnamed)");
        dueStation(-1, -1, 0, 0, true);
        dueStation(-1, -1, 99, 2, true);
        dueStation(-1, 0, 0, 0, false);
        dueStation(0, -1, 0, 0, false);
        dueStation(-1, 40, 0, 0, false);
        dueStation(-2, -2, 0, 0, false);
        dueStation(-1, -2, 0, 0, false);
        dueStation(-2, -1, 0, 0, false);
    }

    private static void yearsAndTones() {
        Check.sentence("a year, a TONE");
        for (int x : new int[] {-1, 5}) {
            dueStation(x, x, 0, 0, true);
            dueStation(x, x, 99, 0, true);
            dueStation(x, x, 0, 2, true);
            for (int far : Check.FAR) {
                dueStation(x, x, far, 0, false);
                dueStation(x, x, 0, far, false);
            }
            dueStation(x, x, -1, 0, false);
            dueStation(x, x, 100, 0, false);
            dueStation(x, x, 0, -1, false);
            dueStation(x, x, 0, 3, false);
        }
    }

    private static void noneOfTwenty() {
        Check.sentence("NONE (STATUS 1): there are 20");
        ClapValley valley = new ClapValley();
        for (int s = 0; s < 20; s++) {
            Check.due("station", s, Check.write(valley, s, s, s, 0, s, 2 * s));
        }
        Check.dueRefused(valley, 1, "the 21st station", () -> valley.station(0, 0, 0, 0));
        Check.dueRefused(valley, 1, "the 21st station, unnamed", () -> valley.station(-1, -1, 0, 0));
        Check.due("count(4)", 2, valley.count(4));
        valley.clear();
        Check.due("station behind clear", 0, valley.station(0, 0, 0, 0));
        Check.due("count(4)", 2, valley.count(4));
    }

    private static void notAsTold() {
        Check.sentence("NONE (STATUS 1): there are 20, not as told.");
        ClapValley valley = new ClapValley();
        Check.dueRefused(valley, 1, "station(41, 0, 0, 0)", () -> valley.station(41, 0, 0, 0));
        Check.due("the first station behind it", 0, valley.station(40, 0, 0, 0));
        Check.dueRefused(valley, 1, "station(0, 0, 0, 3)", () -> valley.station(0, 0, 0, 3));
        Check.due("the next station behind it", 1, valley.station(0, 0, 0, 2));
    }

    private static void oneRefusalACall() {
        Check.sentence("STATUS: how many calls were refused");
        ClapValley valley = new ClapValley();
        Check.dueRefused(valley, 1, "all wrong", () -> valley.station(41, -1, 100, 3));
        for (int s = 0; s < 20; s++) {
            valley.station(0, 0, 0, 0);
        }
        Check.dueRefused(valley, 1, "all wrong and full", () -> valley.station(41, -1, 100, 3));
        Check.due("count(4)", 2, valley.count(4));
    }
}
