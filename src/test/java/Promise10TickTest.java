/** Promise 10: tick. */
public final class Promise10TickTest {
    public static void main(String[] args) {
        howMany();
        lastAllowed();
        twelve();
        eachStationItsOwn();
        oneRefusalACall();
        stationAhead();
        Check.end();
    }

    private static void howMany() {
        Check.sentence("A TICK (0 to 9999) is written: how many the STATION has.");
        ClapValley valley = new ClapValley();
        valley.station(0, 0, 0, 0);
        valley.station(-1, -1, 0, 0);
        for (int s = 0; s < 2; s++) {
            for (int k = 1; k <= 12; k++) {
                Check.due("tick " + k, k, valley.tick(s, 100 - 7 * k));
                Check.due("told(" + s + ", 4)", k, valley.told(s, 4));
            }
            for (int k = 1; k <= 12; k++) {
                Check.due("told " + k, 100 - 7 * k, valley.told(s, 9 + k));
            }
        }
        Check.due("count(5)", 0, valley.count(5));
    }

    private static void lastAllowed() {
        Check.sentence("A TICK (0 to 9999) is written");
        ClapValley valley = new ClapValley();
        valley.station(0, 0, 0, 0);
        Check.due("tick(0, 0)", 1, valley.tick(0, 0));
        Check.due("tick(0, 9999)", 2, valley.tick(0, 9999));
        Check.dueRefused(valley, 2, "tick(0, -1)", () -> valley.tick(0, -1));
        Check.dueRefused(valley, 2, "tick(0, 10000)", () -> valley.tick(0, 10000));
        for (int far : Check.FAR) {
            Check.dueRefused(valley, 2, "tick(0, " + far + ")", () -> valley.tick(0, far));
        }
        Check.due("the same tick again", 3, valley.tick(0, 9999));
        Check.due("told(0, 10)", 0, valley.told(0, 10));
        Check.due("told(0, 11)", 9999, valley.told(0, 11));
        Check.due("told(0, 12)", 9999, valley.told(0, 12));
    }

    private static void twelve() {
        Check.sentence("NONE (STATUS 2): it has 12");
        ClapValley valley = new ClapValley();
        Check.write(valley, 0, 0, 0, 0, 12, 11, 10, 9, 8, 7, 6, 5, 4, 3, 2);
        Check.due("the 12th tick", 12, valley.tick(0, 1));
        Check.dueRefused(valley, 2, "the 13th tick", () -> valley.tick(0, 0));
        Check.dueRefused(valley, 2, "the 14th tick", () -> valley.tick(0, 5));
        Check.due("count(5)", 2, valley.count(5));
    }

    private static void eachStationItsOwn() {
        Check.sentence("how many the STATION has");
        ClapValley valley = new ClapValley();
        for (int s = 0; s < 20; s++) {
            Check.write(valley, s, 0, 0, 0, 5, 5, 5, 5, 5, 5, 5, 5, 5, 5, 5, s);
        }
        for (int s = 0; s < 20; s++) {
            int k = s;
            Check.due("told(" + s + ", 21)", s, valley.told(s, 21));
            Check.dueRefused(valley, 2, "the 13th tick of " + s, () -> valley.tick(k, 5));
        }
        valley.clear();
        valley.station(0, 0, 0, 0);
        Check.due("tick of a new station with an old number", 1, valley.tick(0, 5));
    }

    private static void oneRefusalACall() {
        Check.sentence("STATUS: how many calls were refused");
        ClapValley valley = new ClapValley();
        Check.write(valley, 0, 0, 0, 0, 1, 2, 3, 4, 5, 6, 7, 8, 9, 10, 11, 12);
        Check.dueRefused(valley, 2, "wrong and full", () -> valley.tick(0, 10000));
        Check.due("count(5)", 1, valley.count(5));
    }

    private static void stationAhead() {
        Check.sentence("NoSuchElementException (ahead): no such STATION (as everywhere).");
        ClapValley valley = new ClapValley();
        Check.dueNone(valley, "tick(0, 1) of no station", () -> valley.tick(0, 1));
        Check.dueNone(valley, "tick(0, -1) of no station", () -> valley.tick(0, -1));
        valley.station(0, 0, 0, 0);
        valley.station(0, 0, 0, 0);
        Check.due("tick(1, 1)", 1, valley.tick(1, 1));
        for (int tick : new int[] {-1, 1, 10000}) {
            Check.dueNone(valley, "tick(2, " + tick + ")", () -> valley.tick(2, tick));
            Check.dueNone(valley, "tick(-1, " + tick + ")", () -> valley.tick(-1, tick));
            Check.dueNone(valley, "tick(20, " + tick + ")", () -> valley.tick(20, tick));
            for (int far : Check.FAR) {
                Check.dueNone(valley, "tick(" + far + ", " + tick + ")", () -> valley.tick(far, tick));
            }
        }
        valley.clear();
        Check.dueNone(valley, "tick(0, 1) behind clear", () -> valley.tick(0, 1));
        for (int s = 0; s < 20; s++) {
            valley.station(0, 0, 0, 0);
        }
        Check.due("tick(19, 1)", 1, valley.tick(19, 1));
        Check.dueNone(valley, "tick(20, 1) of a full book", () -> valley.tick(20, 1));
    }
}
