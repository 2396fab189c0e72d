/** Promise 22: clear. */
public final class Promise22ClearTest {
    public static void main(String[] args) {
        bookIsEmpty();
        spotsAreEmpty();
        nothingElse();
        ofNothing();
        ofAsMuchAsFits();
        Check.end();
    }

    private static void bookIsEmpty() {
        Check.sentence("THE BOOK and SPOTS are empty.");
        ClapValley valley = Check.valleyOf("barn 0 4;");
        Check.write(valley, 0, 0, 3, 1, 8, 9);
        Check.write(valley, -1, -1, 3, 1, 8);
        valley.clear();
        Check.due("count(1)", 0, valley.count(1));
        for (int station = 0; station < 2; station++) {
            int s = station;
            Check.dueNone(valley, "told", () -> valley.told(s, 0));
            Check.dueNone(valley, "tick", () -> valley.tick(s, 0));
            Check.dueNone(valley, "fits", () -> valley.fits(0, s) ? 1 : 0);
            Check.dueNone(valley, "where", () -> valley.where(0, s, -1));
            Check.dueNone(valley, "airs", () -> valley.airs(0, s, 0));
            Check.dueNone(valley, "whose", () -> valley.whose(0, s, 0, 0));
        }
        Check.due("gone", 0, valley.gone(0, 3));
        Check.dueIllegal(valley, "plans", () -> valley.plans(3, 100, -1));
        Check.due("station", 0, valley.station(1, 1, 1, 1));
        Check.due("its ticks", 0, valley.told(0, 4));
        Check.dueNone(valley, "its first tick", () -> valley.told(0, 10));
        Check.due("tick", 1, valley.tick(0, 5));
    }

    private static void spotsAreEmpty() {
        Check.sentence("THE BOOK and SPOTS are empty.");
        ClapValley valley = Check.valleyOf("barn 0 4;");
        valley.spot(0, 0);
        Check.due("next with a spot", 1, valley.next(3, 0, 0, 0));
        valley.clear();
        Check.due("count(2)", 0, valley.count(2));
        Check.due("next without a spot", -1, valley.next(3, 0, 0, 0));
        Check.due("spot", 0, valley.spot(0, 4));
        Check.due("next with a spot that is of no use", -1, valley.next(3, 0, 0, 0));
    }

    private static void nothingElse() {
        Check.sentence("THE BOOK and SPOTS are empty.");
        ClapValley valley = Check.valleyOf("barn 0 4;air 70;");
        Check.tell(valley, 1, "  x");
        Check.feed(valley, "air 60;");
        valley.station(0, 0, 0, 0);
        valley.station(41, 0, 0, 0);
        valley.station(41, 0, 0, 0);
        for (int k = 0; k < 3; k++) {
            valley.tick(0, -1);
        }
        for (int k = 0; k < 4; k++) {
            valley.spot(41, 0);
        }
        valley.clear();
        Check.dueCounts(valley, "behind clear", 20, 0, 0, 1, 2, 3, 4);
        Check.due("fault()", 2, valley.fault());
        Check.dueAbout(valley, 0, 0, 1, 0, 100, 70);
        Check.due("land(2, 7)", 0, valley.land(2, 7));
        Check.due("about(2, 4)", 60, valley.about(2, 4));
        Check.due("restore(), no image", false, valley.restore());
        valley.station(0, 0, 0, 0);
        valley.image();
        valley.clear();
        Check.due("restore(), the image is still there", true, valley.restore());
        Check.due("count(1)", 1, valley.count(1));
    }

    private static void ofNothing() {
        Check.sentence("THE BOOK and SPOTS are empty.");
        ClapValley valley = new ClapValley();
        valley.clear();
        Check.dueCounts(valley, "behind clear", 0, 0, 0, 0, 0, 0, 0);
        valley.clear();
        Check.dueCounts(valley, "behind another clear", 0, 0, 0, 0, 0, 0, 0);
    }

    private static void ofAsMuchAsFits() {
        Check.sentence("THE BOOK and SPOTS are empty.");
        ClapValley valley = new ClapValley();
        for (int round = 0; round < 2; round++) {
            for (int s = 0; s < 20; s++) {
                Check.due("station", s, valley.station(s, 0, 0, 0));
            }
            for (int k = 1; k <= 12; k++) {
                Check.due("tick", k, valley.tick(19, k));
            }
            for (int s = 0; s < 8; s++) {
                Check.due("spot", s, valley.spot(s, 0));
            }
            valley.clear();
            Check.dueCounts(valley, "behind clear", 0, 0, 0, 0, 0, 0, 0);
        }
    }
}
