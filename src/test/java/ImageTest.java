/** Promises 22 to 24: clear, image, restore. */
public final class ImageTest {
    public static void main(String[] args) {
        clear();
        imageAndRestore();
        whatIsNotKept();
        Check.end();
    }

    private static void dueCounts(ClapValley valley, String when, int... due) {
        for (int what = 0; what < 7; what++) {
            Check.due("count(" + what + ") " + when, due[what], valley.count(what));
        }
    }

    /** One station with two ticks, two spots, and 1, 2, 3, 4 refusals. */
    private static ClapValley filled() {
        ClapValley valley = new ClapValley();
        Check.tell(valley, 0, "x");
        Check.write(valley, 5, 6, 7, 1, 22, 11);
        valley.station(41, 0, 0, 0);
        valley.station(41, 0, 0, 0);
        for (int k = 0; k < 3; k++) {
            valley.tick(0, -1);
        }
        valley.spot(1, 2);
        valley.spot(3, 4);
        for (int k = 0; k < 4; k++) {
            valley.spot(-1, 0);
        }
        return valley;
    }

    private static void dueBook(ClapValley valley, String when) {
        dueCounts(valley, when, 0, 1, 2, 1, 2, 3, 4);
        int[] due = {5, 6, 7, 1, 2};
        for (int what = 0; what < 5; what++) {
            Check.due("told(0, " + what + ") " + when, due[what], valley.told(0, what));
        }
        Check.due("told(0, 10) " + when, 22, valley.told(0, 10));
        Check.due("told(0, 11) " + when, 11, valley.told(0, 11));
        Check.dueNone("told(1, 0) " + when, () -> valley.told(1, 0));
    }

    private static void clear() {
        ClapValley valley = filled();
        Check.tell(valley, 2, "air 70;");
        Check.feed(valley, "air 70;");
        valley.clear();
        dueCounts(valley, "behind clear", 20, 0, 0, 1, 2, 3, 4);
        Check.due("about(2, 4) behind clear", 70, valley.about(2, 4));
        Check.dueNone("told(0, 0) behind clear", () -> valley.told(0, 0));
        Check.due("station behind clear", 0, valley.station(1, 1, 1, 1));
        Check.due("its ticks", 0, valley.told(0, 4));
        Check.due("spot behind clear", 0, valley.spot(1, 1));
    }

    private static void imageAndRestore() {
        ClapValley valley = filled();
        Check.due("restore without an image", false, valley.restore());
        dueBook(valley, "without an image");
        valley.image();
        dueBook(valley, "behind image");
        valley.tick(0, 33);
        valley.tick(0, -1);
        Check.write(valley, -1, -1, 0, 0, 1);
        valley.spot(9, 9);
        valley.spot(9, 99);
        Check.due("restore", true, valley.restore());
        dueBook(valley, "behind restore");
        valley.clear();
        Check.write(valley, 8, 8, 8, 2, 1, 2, 3);
        Check.due("restore again", true, valley.restore());
        dueBook(valley, "behind the second restore");
        // The order of the ticks is kept with them.
        Check.tell(valley, 1, "barn 5 17;");
        Check.due("fits", false, valley.fits(1, 0));
        Check.tell(valley, 1, "barn 5 17;barn 16 6;barn 0 0;hears 1000;wood 0 0 0 0 1 1 1;");
        Check.due("row", 22, valley.clap(1, 5, 6, 7, 1, 0));
        valley.clear();
        valley.image();
        valley.station(1, 1, 1, 1);
        Check.due("restore of the later image", true, valley.restore());
        dueCounts(valley, "behind the later image", 0, 0, 0, 1, 2, 3, 4);
    }

    private static void whatIsNotKept() {
        // Lands, tape and the latest fault stay as they are; next() sees the spots of the image.
        ClapValley valley = Check.valleyOf("barn 0 5;");
        valley.spot(0, 0);
        valley.image();
        Check.due("a faulty text", 1, Check.tell(valley, 0, "air 70"));
        Check.tell(valley, 1, "air 60;barn 0 5;");
        Check.due("a faulty text", 1, Check.tell(valley, 0, "air 70"));
        Check.feed(valley, "air 70;");
        valley.clear();
        Check.due("next without spots", -1, valley.next(3, 0, 0, 0));
        Check.due("restore", true, valley.restore());
        dueCounts(valley, "behind restore", 20, 0, 1, 0, 0, 0, 0);
        Check.due("fault()", 6, valley.fault());
        Check.due("about(1, 4)", 60, valley.about(1, 4));
        Check.due("next with the spot", 1, valley.next(3, 0, 0, 0));
        Check.due("land(0, 7)", 0, valley.land(0, 7));
        Check.due("about(0, 4)", 70, valley.about(0, 4));
    }
}
