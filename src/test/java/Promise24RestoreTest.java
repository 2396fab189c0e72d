/** Promise 24: restore. */
public final class Promise24RestoreTest {
    public static void main(String[] args) {
        thereIsNone();
        asTheImage();
        ticksInOrder();
        statusToo();
        againAndAgain();
        whatIsNotKept();
        Check.end();
    }

    private static void thereIsNone() {
        Check.sentence("False: there is none.");
        ClapValley valley = new ClapValley();
        Check.due("restore of a new object", false, valley.restore());
        Check.tell(valley, 0, "air 70;");
        Check.tell(valley, 1, " x");
        Check.write(valley, 5, 6, 7, 1, 22, 11);
        valley.spot(1, 1);
        valley.spot(41, 1);
        valley.station(41, 1, 1, 1);
        valley.tick(0, -1);
        Check.dueKept(valley, "restore", "0", () -> valley.restore() ? 1 : 0);
        Check.dueKept(valley, "restore again", "0", () -> valley.restore() ? 1 : 0);
    }

    private static void asTheImage() {
        Check.sentence("It is as the IMAGE again: true.");
        ClapValley valley = new ClapValley();
        Check.write(valley, 5, 6, 7, 1, 22, 11);
        Check.write(valley, -1, -1, 8, 2);
        valley.spot(1, 1);
        valley.image();
        Check.dueKept(valley, "restore of nothing new", "1", () -> valley.restore() ? 1 : 0);
        String before = Check.state(valley).toString();
        // More than in the image, then less, then as much and other.
        Check.write(valley, 1, 2, 3, 0, 4);
        valley.spot(2, 2);
        Check.due("restore from more", true, valley.restore());
        Check.due("the state from more", before, Check.state(valley).toString());
        valley.clear();
        Check.due("restore from less", true, valley.restore());
        Check.due("the state from less", before, Check.state(valley).toString());
        valley.clear();
        Check.write(valley, 9, 9, 9, 0, 1, 2, 3);
        Check.write(valley, 8, 8, 8, 0, 1, 2, 3);
        valley.spot(3, 3);
        Check.due("restore from other", true, valley.restore());
        Check.due("the state from other", before, Check.state(valley).toString());
    }

    private static void ticksInOrder() {
        Check.sentence("It is as the IMAGE again");
        // The ticks fit in order, and whose they are is asked as written, behind a restore too.
        ClapValley valley = Check.valleyOf("barn 0 4;barn 0 8;barn 0 6;");
        Check.write(valley, 0, 0, 0, 0, 16, 12, 8);
        valley.image();
        valley.clear();
        Check.write(valley, 0, 0, 0, 0, 1, 2, 3);
        Check.due("fits", false, valley.fits(0, 0));
        valley.restore();
        Check.due("fits behind restore", true, valley.fits(0, 0));
        Check.due("whose 0", 9, valley.whose(0, 0, 0, 1));
        Check.due("whose 2", 8, valley.whose(0, 0, 2, 1));
        Check.due("gone", 0, valley.gone(0, 0));
        Check.due("tick", 4, valley.tick(0, 10));
        Check.due("fits with one more", false, valley.fits(0, 0));
    }

    private static void statusToo() {
        Check.sentence("AN IMAGE keeps THE BOOK, SPOTS, STATUS.");
        ClapValley valley = new ClapValley();
        valley.station(0, 0, 0, 0);
        valley.image();
        Check.tell(valley, 0, "x");
        valley.station(0, 0, 0, 3);
        valley.tick(0, -1);
        valley.spot(41, 0);
        Check.dueCounts(valley, "behind refusals", 0, 1, 0, 1, 1, 1, 1);
        valley.restore();
        Check.dueCounts(valley, "behind restore", 0, 1, 0, 0, 0, 0, 0);
        valley.spot(41, 0);
        valley.image();
        valley.spot(41, 0);
        valley.restore();
        Check.dueCounts(valley, "behind another restore", 0, 1, 0, 0, 0, 0, 1);
    }

    private static void againAndAgain() {
        Check.sentence("It is as the IMAGE again: true.");
        ClapValley valley = new ClapValley();
        Check.write(valley, 5, 6, 7, 1, 22, 11);
        valley.image();
        String before = Check.state(valley).toString();
        for (int k = 0; k < 5; k++) {
            valley.tick(0, k);
            valley.station(k, k, k, 0);
            valley.spot(40 + k, 0);
            Check.due("restore", true, valley.restore());
            Check.due("the state behind restore", before, Check.state(valley).toString());
        }
    }

    private static void whatIsNotKept() {
        Check.sentence("AN IMAGE keeps THE BOOK, SPOTS, STATUS.");
        // Lands, tape and the latest fault stay as they are; next() sees the spots of the image.
        ClapValley valley = Check.valleyOf("barn 0 5;");
        valley.spot(0, 0);
        valley.image();
        Check.tell(valley, 1, "air 60;barn 0 5;");
        Check.due("a faulty text", 1, Check.tell(valley, 0, "air 70"));
        Check.feed(valley, "air 70;");
        valley.clear();
        Check.due("next without spots", -1, valley.next(3, 0, 0, 0));
        Check.due("restore", true, valley.restore());
        Check.dueCounts(valley, "behind restore", 20, 0, 1, 0, 0, 0, 0);
        Check.due("fault()", 6, valley.fault());
        Check.due("about(1, 4)", 60, valley.about(1, 4));
        Check.due("next with the spot", 1, valley.next(3, 0, 0, 0));
        Check.due("land(0, 7)", 0, valley.land(0, 7));
        Check.due("about(0, 4)", 70, valley.about(0, 4));
    }
}
