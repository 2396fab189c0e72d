/** Promise 4: fault. */
public final class Promise04FaultTest {
    public static void main(String[] args) {
        without();
        latest();
        ends();
        thrownOnes();
        otherCalls();
        Check.end();
    }

    private static void without() {
        Check.sentence("NONE without.");
        ClapValley valley = new ClapValley();
        Check.due("fault() of a new object", -1, valley.fault());
        Check.tell(valley, 0, "air 70;");
        Check.due("fault() behind a good text", -1, valley.fault());
    }

    private static void latest() {
        Check.sentence("The place of the latest land()'s FAULT");
        ClapValley valley = new ClapValley();
        Check.tell(valley, 0, "  x");
        Check.due("fault()", 2, valley.fault());
        Check.due("fault() again", 2, valley.fault());
        Check.tell(valley, 1, "air 49;");
        Check.due("fault() of another land's text", 4, valley.fault());
        Check.tell(valley, 0, "air 70;");
        Check.due("fault() behind a good text", -1, valley.fault());
        Check.tell(valley, 0, "level 1 1 1;");
        Check.due("fault() behind a bad one", 10, valley.fault());
        valley.land(3, 0);
        Check.due("fault() behind an empty text", -1, valley.fault());
    }

    private static void ends() {
        Check.sentence("The place of the latest land()'s FAULT");
        ClapValley valley = new ClapValley();
        Check.tell(valley, 0, ";");
        Check.due("fault() at the first byte", 0, valley.fault());
        Check.tell(valley, 0, " ".repeat(699) + ";");
        Check.due("fault() at the last byte", 699, valley.fault());
        Check.tell(valley, 0, "air" + " ".repeat(697));
        Check.due("fault() behind the last byte", 700, valley.fault());
    }

    private static void thrownOnes() {
        Check.sentence("n below 0 (nothing changes)");
        ClapValley valley = new ClapValley();
        Check.tell(valley, 0, "  x");
        Check.dueIllegal(valley, "land(0, 1)", () -> valley.land(0, 1));
        Check.dueIllegal(valley, "land(0, -1)", () -> valley.land(0, -1));
        Check.dueNone(valley, "land(6, 0)", () -> valley.land(6, 0));
        Check.due("fault()", 2, valley.fault());
    }

    private static void otherCalls() {
        Check.sentence("The place of the latest land()'s FAULT");
        ClapValley valley = new ClapValley();
        valley.image();
        Check.tell(valley, 0, "  x");
        Check.feed(valley, "air 70;");
        valley.clear();
        valley.restore();
        valley.station(41, 41, 0, 0);
        valley.spot(41, 41);
        Check.due("fault()", 2, valley.fault());
    }
}
