import java.util.List;

/** Promise 23: image. */
public final class Promise23ImageTest {
    public static void main(String[] args) {
        changesNothing();
        keepsBookSpotsStatus();
        ofNothing();
        ofAsMuchAsFits();
        inPlaceOfAnother();
        isACopy();
        Check.end();
    }

    /** One station with two ticks, two spots, and 1, 2, 3, 4 refusals. */
    private static ClapValley filled() {
        ClapValley valley = Check.valleyOf("barn 0 5;");
        Check.tell(valley, 1, "x");
        Check.write(valley, 5, 6, 7, 1, 22, 11);
        valley.station(41, 0, 0, 0);
        valley.station(41, 0, 0, 0);
        for (int k = 0; k < 3; k++) {
            valley.tick(0, -1);
        }
        valley.spot(0, 5);
        valley.spot(0, 0);
        for (int k = 0; k < 4; k++) {
            valley.spot(-1, 0);
        }
        return valley;
    }

    private static void changesNothing() {
        Check.sentence("AN IMAGE is kept");
        ClapValley valley = filled();
        String before = Check.state(valley).toString();
        valley.image();
        Check.due("the state behind image", before, Check.state(valley).toString());
        Check.due("next", 1, valley.next(3, 0, 0, 1));
    }

    private static void keepsBookSpotsStatus() {
        Check.sentence("AN IMAGE keeps THE BOOK, SPOTS, STATUS.");
        ClapValley valley = filled();
        valley.image();
        String before = Check.state(valley).toString();
        valley.clear();
        valley.restore();
        Check.due("the state behind restore", before, Check.state(valley).toString());
        Check.due("next's first spot", 1, valley.next(3, 0, 0, 1));
        Check.dueCounts(valley, "behind restore", 0, 1, 2, 1, 2, 3, 4);
    }

    private static void ofNothing() {
        Check.sentence("AN IMAGE is kept");
        ClapValley valley = new ClapValley();
        valley.image();
        valley.station(0, 0, 0, 0);
        valley.spot(0, 0);
        valley.spot(41, 0);
        Check.due("restore of an empty image", true, valley.restore());
        Check.dueCounts(valley, "of the empty image", 0, 0, 0, 0, 0, 0, 0);
        Check.dueNone(valley, "told(0, 0)", () -> valley.told(0, 0));
        Check.due("station", 0, valley.station(1, 1, 1, 1));
    }

    private static void ofAsMuchAsFits() {
        Check.sentence("AN IMAGE is kept");
        ClapValley valley = Check.valleyOf("barn 0 5;");
        for (int s = 0; s < 20; s++) {
            Check.write(valley, s, 40 - s, 5 * s, s % 3, 99 - s, 1, 2, 3, 4, 5, 6, 7, 8, 9, 10, s);
        }
        for (int s = 0; s < 7; s++) {
            valley.spot(0, 5);
        }
        valley.spot(0, 0);
        valley.image();
        List<Integer> before = Check.state(valley);
        Check.due("next's first spot", 7, valley.next(3, 0, 0, 1));
        valley.clear();
        for (int s = 0; s < 20; s++) {
            Check.write(valley, -1, -1, 0, 0, 7);
        }
        valley.spot(9, 9);
        Check.due("restore", true, valley.restore());
        Check.due("the state behind restore", before.toString(), Check.state(valley).toString());
        Check.due("next's first spot", 7, valley.next(3, 0, 0, 1));
        Check.dueRefused(valley, 1, "the 21st station", () -> valley.station(0, 0, 0, 0));
        Check.dueRefused(valley, 2, "the 13th tick", () -> valley.tick(19, 0));
        Check.dueRefused(valley, 3, "the 9th spot", () -> valley.spot(0, 0));
    }

    private static void inPlaceOfAnother() {
        Check.sentence("in place of another one");
        ClapValley valley = filled();
        valley.image();
        valley.station(1, 1, 1, 1);
        valley.tick(0, 33);
        valley.spot(41, 0);
        valley.image();
        String later = Check.state(valley).toString();
        valley.clear();
        valley.restore();
        Check.due("the state of the later image", later, Check.state(valley).toString());
        // Of less than before.
        valley.clear();
        valley.image();
        Check.write(valley, 2, 2, 2, 2, 2);
        valley.restore();
        Check.dueCounts(valley, "of the last image", 0, 0, 0, 1, 2, 3, 5);
    }

    private static void isACopy() {
        Check.sentence("AN IMAGE is kept");
        ClapValley valley = filled();
        valley.image();
        String before = Check.state(valley).toString();
        // What is written behind it, into the same station and in new ones, isn't in it.
        valley.tick(0, 5);
        valley.tick(0, 10000);
        Check.write(valley, 3, 3, 3, 2, 4);
        valley.spot(3, 3);
        valley.restore();
        Check.due("the state behind restore", before, Check.state(valley).toString());
        // Nor what is written behind restore.
        valley.tick(0, 5);
        valley.station(0, 0, 0, 3);
        Check.write(valley, 3, 3, 3, 2, 4);
        valley.restore();
        Check.due("the state behind another restore", before, Check.state(valley).toString());
    }
}
