/** Promise 5: count. */
public final class Promise05CountTest {
    public static void main(String[] args) {
        eachByItself();
        nothingAndAll();
        refusals();
        anotherWhat();
        Check.end();
    }

    private static void eachByItself() {
        Check.sentence("0 bytes of the tape, 1 STATIONS, 2 SPOTS, 3 to 6 STATUS 0 to 3.");
        ClapValley valley = new ClapValley();
        Check.dueCounts(valley, "of a new object", 0, 0, 0, 0, 0, 0, 0);
        Check.tell(valley, 0, "x");
        Check.dueCounts(valley, "behind a fault", 0, 0, 0, 1, 0, 0, 0);
        Check.feed(valley, "air 70;");
        Check.dueCounts(valley, "behind feed", 20, 0, 0, 1, 0, 0, 0);
        valley.station(0, 0, 0, 0);
        Check.dueCounts(valley, "behind station", 20, 1, 0, 1, 0, 0, 0);
        valley.spot(0, 0);
        valley.spot(0, 0);
        Check.dueCounts(valley, "behind spot", 20, 1, 2, 1, 0, 0, 0);
        valley.station(0, 0, 0, 3);
        Check.dueCounts(valley, "behind a refused station", 20, 1, 2, 1, 1, 0, 0);
        valley.tick(0, 10000);
        Check.dueCounts(valley, "behind a refused tick", 20, 1, 2, 1, 1, 1, 0);
        valley.spot(0, 41);
        Check.dueCounts(valley, "behind a refused spot", 20, 1, 2, 1, 1, 1, 1);
        valley.tick(0, 9999);
        Check.dueCounts(valley, "behind a tick", 20, 1, 2, 1, 1, 1, 1);
    }

    private static void nothingAndAll() {
        Check.sentence("0 bytes of the tape, 1 STATIONS, 2 SPOTS");
        ClapValley valley = new ClapValley();
        for (int k = 0; k < 40; k++) {
            valley.feed(0, 0, 0, 0, 0);
            valley.station(1, 1, 1, 1);
            valley.spot(1, 1);
        }
        Check.dueCounts(valley, "of as much as fits", 700, 20, 8, 0, 20, 0, 32);
    }

    private static void refusals() {
        Check.sentence("STATUS: how many calls were refused");
        ClapValley valley = new ClapValley();
        valley.station(0, 0, 0, 0);
        for (int k = 1; k <= 30; k++) {
            Check.tell(valley, k % 6, "x");
            valley.station(-1, k, 0, 0);
            valley.tick(0, -k);
            valley.spot(40 + k, 0);
            Check.dueCounts(valley, "behind refusals", 0, 1, 0, k, k, k, k);
        }
        // What throws isn't refused in this sense.
        Check.dueNone(valley, "tick(1, -1)", () -> valley.tick(1, -1));
        Check.dueIllegal(valley, "land(0, 1)", () -> valley.land(0, 1));
    }

    private static void anotherWhat() {
        Check.sentence("NoSuchElementException: another what.");
        ClapValley valley = new ClapValley();
        Check.dueNone(valley, "count(-1)", () -> valley.count(-1));
        Check.dueNone(valley, "count(7)", () -> valley.count(7));
        for (int far : Check.FAR) {
            Check.dueNone(valley, "count(" + far + ")", () -> valley.count(far));
        }
    }
}
