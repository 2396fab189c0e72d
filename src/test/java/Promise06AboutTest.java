/** Promise 6: about. */
public final class Promise06AboutTest {
    public static void main(String[] args) {
        each();
        nothingAndAll();
        noSuchLand();
        anotherWhat();
        Check.end();
    }

    private static void each() {
        Check.sentence("Of a LAND: 0 WALLS, 1 BARNS, 2 WOODS, 3 HEARS, 4 AIR.");
        ClapValley valley = Check.valleyOf("upright 1 0 2;level 1 0 2;upright 3 4 5;barn 1 1;barn 2 2;wood 0 0 0 0 0 0 0;"
                + "hears 123;air 67;");
        Check.dueAbout(valley, 0, 3, 2, 1, 123, 67);
        for (int land = 1; land < 6; land++) {
            Check.dueAbout(valley, land, 0, 0, 0, 100, 100);
        }
    }

    private static void nothingAndAll() {
        Check.sentence("Of a LAND: 0 WALLS, 1 BARNS, 2 WOODS, 3 HEARS, 4 AIR.");
        ClapValley valley = new ClapValley();
        Check.dueAbout(valley, 5, 0, 0, 0, 100, 100);
        Check.tell(valley, 5, "level 1 2 3;".repeat(6) + "barn 1 2;".repeat(6) + "wood 1 1 2 2 1 1 1;".repeat(4)
                + "hears 1000;air 150;");
        Check.dueAbout(valley, 5, 6, 6, 4, 1000, 150);
        Check.tell(valley, 5, "hears 0;air 50;");
        Check.dueAbout(valley, 5, 0, 0, 0, 0, 50);
    }

    private static void noSuchLand() {
        Check.sentence("no such LAND (as everywhere)");
        ClapValley valley = new ClapValley();
        for (int what = 0; what < 5; what++) {
            int w = what;
            Check.dueNone(valley, "about(-1, " + w + ")", () -> valley.about(-1, w));
            Check.dueNone(valley, "about(6, " + w + ")", () -> valley.about(6, w));
        }
        for (int far : Check.FAR) {
            Check.dueNone(valley, "about(" + far + ", 0)", () -> valley.about(far, 0));
        }
    }

    private static void anotherWhat() {
        Check.sentence("NoSuchElementException: also another what.");
        ClapValley valley = new ClapValley();
        for (int land = 0; land < 6; land++) {
            int k = land;
            Check.dueNone(valley, "about(" + k + ", -1)", () -> valley.about(k, -1));
            Check.dueNone(valley, "about(" + k + ", 5)", () -> valley.about(k, 5));
        }
        for (int far : Check.FAR) {
            Check.dueNone(valley, "about(0, " + far + ")", () -> valley.about(0, far));
        }
    }
}
