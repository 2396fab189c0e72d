/** Promise 1: a new object. */
public final class Promise01NewObjectTest {
    public static void main(String[] args) {
        emptyLands();
        nothingElse();
        nothingShared();
        lastCall();
        Check.end();
    }

    private static void emptyLands() {
        Check.sentence("Empty LANDS.");
        ClapValley valley = new ClapValley();
        for (int land = 0; land < 6; land++) {
            Check.dueAbout(valley, land, 0, 0, 0, 100, 100);
            Check.dueRow(valley, land, 0, 0, 0, 0);
            Check.dueRow(valley, land, 40, 40, 99, 2);
            Check.due("word", 1680, valley.word(land, 20, 20, 1));
            Check.due("knows", 1681, valley.knows(land, 0, 40, 40, 0));
        }
    }

    private static void nothingElse() {
        Check.sentence("LANDS 0 to 5 (all empty at first)");
        ClapValley valley = new ClapValley();
        Check.dueCounts(valley, "of a new object", 0, 0, 0, 0, 0, 0, 0);
        Check.due("fault()", -1, valley.fault());
        Check.due("restore()", false, valley.restore());
        Check.dueNone(valley, "told(0, 0)", () -> valley.told(0, 0));
    }

    private static void nothingShared() {
        Check.sentence("Empty LANDS.");
        ClapValley used = Check.valleyOf("upright 5 0 40;barn 1 1;wood 0 0 1 1 5 5 5;hears 7;air 70;");
        Check.write(used, 0, 0, 0, 0, 1, 2);
        used.spot(1, 1);
        used.spot(41, 1);
        Check.feed(used, "x");
        used.image();
        ClapValley other = new ClapValley();
        Check.dueAbout(other, 0, 0, 0, 0, 100, 100);
        Check.dueCounts(other, "of another object", 0, 0, 0, 0, 0, 0, 0);
        Check.due("restore()", false, other.restore());
        Check.dueAbout(used, 0, 1, 1, 1, 7, 70);
        Check.dueCounts(used, "of the used one", 20, 1, 1, 0, 0, 0, 1);
    }

    private static void lastCall() {
        Check.sentence("An object is used for at most 512 calls after it has been made");
        ClapValley valley = new ClapValley();
        for (int call = 1; call <= 511; call++) {
            Check.due("a refused station", -1, valley.station(41, 0, 0, 0));
        }
        Check.due("the 512th call, count(4)", 511, valley.count(4));
        ClapValley other = new ClapValley();
        for (int call = 1; call <= 255; call++) {
            other.feed(0x61697220, 0x35303b20, 0x20202020, 0x20202020, call);
            Check.due("land(0, 7)", 0, other.land(0, 7));
        }
        other.image();
        Check.due("the 512th call, about(0, 4)", 50, other.about(0, 4));
    }
}
