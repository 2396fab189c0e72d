/** Promise 3: land, the call; Promise03TextTest has the TEXT and its FAULTS. */
public final class Promise03LandTest {
    private static final String FULL = "upright 10 0 20;barn 3 3;wood 1 1 2 2 1 1 1;hears 7;air 70;";

    public static void main(String[] args) {
        firstBytes();
        emptyThen();
        noByte();
        inPlaceOfTheEarlier();
        nothingIsLeft();
        sixLands();
        faultyStays();
        statusCounts();
        noSuchLand();
        notSoMany();
        landAhead();
        Check.end();
    }

    private static void firstBytes() {
        Check.sentence("The tape's first n bytes");
        ClapValley valley = new ClapValley();
        Check.feed(valley, "air 70;hears 7; junk");
        Check.due("land(5, 15)", 0, valley.land(5, 15));
        Check.dueAbout(valley, 5, 0, 0, 0, 7, 70);
        // What is on the tape behind n is no part of the text, not even of its last token.
        Check.feed(valley, "air 1000;");
        Check.due("land(0, 7) of air 1000;", 1, valley.land(0, 7));
        Check.due("fault()", 7, valley.fault());
        Check.feed(valley, "air 70;air 71;");
        Check.due("land(0, 7) of two airs", 0, valley.land(0, 7));
        Check.due("about(0, 4)", 70, valley.about(0, 4));
        Check.feed(valley, "air 70;");
        Check.due("land(0, 6) of air 70;", 1, valley.land(0, 6));
        Check.due("fault()", 6, valley.fault());
        Check.feed(valley, "hearsx");
        Check.due("land(0, 5) of hearsx", 1, valley.land(0, 5));
        Check.due("fault()", 5, valley.fault());
    }

    private static void emptyThen() {
        Check.sentence("(it is empty then)");
        ClapValley valley = new ClapValley();
        Check.feed(valley, "air 70;" + " ".repeat(73));
        Check.due("count(0)", 80, valley.count(0));
        Check.due("land(0, 7)", 0, valley.land(0, 7));
        Check.due("count(0) behind land", 0, valley.count(0));
        Check.feed(valley, "x" + " ".repeat(79));
        Check.due("land(0, 7)", 1, valley.land(0, 7));
        Check.due("count(0) behind a fault", 0, valley.count(0));
        Check.feed(valley, "x" + " ".repeat(79));
        Check.due("land(0, 0)", 0, valley.land(0, 0));
        Check.due("count(0) behind no byte", 0, valley.count(0));
    }

    private static void noByte() {
        Check.sentence("The tape's first n bytes (it is empty then) are a LAND");
        ClapValley valley = Check.valleyOf(FULL);
        Check.due("land(0, 0) of an empty tape", 0, valley.land(0, 0));
        Check.dueAbout(valley, 0, 0, 0, 0, 100, 100);
        Check.tell(valley, 0, FULL);
        Check.feed(valley, "x");
        Check.due("land(0, 0)", 0, valley.land(0, 0));
        Check.dueAbout(valley, 0, 0, 0, 0, 100, 100);
    }

    private static void inPlaceOfTheEarlier() {
        Check.sentence("LANDS 0 to 5 (all empty at first), each told by a TEXT.");
        ClapValley valley = Check.valleyOf(FULL);
        Check.due("another text", 0, Check.tell(valley, 0, "barn 3 3;"));
        Check.dueAbout(valley, 0, 0, 1, 0, 100, 100);
        Check.dueRow(valley, 0, 3, 0, 99, 0, 6);
        // A line without loss and years after one with them at the same number.
        Check.tell(valley, 0, "barn 3 3 loss 50 years 5 6;level 9 0 9 loss 50;");
        Check.tell(valley, 0, "barn 3 3;level 9 0 9;hears 1000;");
        Check.dueRow(valley, 0, 3, 0, 99, 0, 6, 18);
        Check.dueRow(valley, 0, 3, 0, 0, 0, 6, 18);
        Check.due("the first text again", 0, Check.tell(valley, 0, FULL));
        Check.dueAbout(valley, 0, 1, 1, 1, 7, 70);
    }

    private static void nothingIsLeft() {
        Check.sentence("LOSS 0 without; always, if it isn't told; 100 at first");
        // However often others were told in all lands, and faulty ones too, nothing of them is left.
        ClapValley valley = new ClapValley();
        for (int round = 0; round < 3; round++) {
            for (int land = 0; land < 6; land++) {
                Check.tell(valley, land, "barn 3 3 loss 99 years 5 6;level 9 0 9 loss 99;wood 0 0 40 40 99 99 99;hears 1;air 50;");
                Check.tell(valley, land, "barn 3 3 loss 98 years 7 8;level 9 0 9 loss 98;wood 0 0 40 40 98 98 98;hears 2;air 51;;");
            }
        }
        for (int land = 0; land < 6; land++) {
            Check.due("the plain text", 0, Check.tell(valley, land, "barn 3 3;level 9 0 9;"));
        }
        for (int land = 0; land < 6; land++) {
            Check.dueAbout(valley, land, 1, 1, 0, 100, 100);
            Check.dueRow(valley, land, 3, 0, 0, 0, 6, 18);
            Check.dueRow(valley, land, 3, 0, 99, 2, 6, 18);
            Check.due("strength of the wall", 1000, valley.strength(land, 3, 0, 0, 0, 0));
            Check.due("strength of the barn", 1000, valley.strength(land, 3, 0, 0, 0, 8));
        }
    }

    private static void sixLands() {
        Check.sentence("LANDS 0 to 5 (all empty at first), each told by a TEXT.");
        ClapValley valley = new ClapValley();
        for (int land = 0; land < 6; land++) {
            Check.due("land(" + land + ", ..)", 0, Check.tell(valley, land, "barn 0 5;".repeat(land) + "air 5" + land + ";"));
            for (int other = 0; other < 6; other++) {
                Check.dueAbout(valley, other, 0, other <= land ? other : 0, 0, 100, other <= land ? 50 + other : 100);
            }
        }
    }

    private static void faultyStays() {
        Check.sentence("or the FAULT (it stays; STATUS counts)");
        ClapValley valley = Check.valleyOf(FULL);
        String other = "level 9 1 30;level 8 1 30;barn 5 5;barn 4 4;wood 0 0 40 40 99 99 99;hears 8;air 99;";
        String[] faults = {"x", "air 60;", "level 9 9 9;", "hears 8;"};
        int[] kinds = {1, 4, 3, 4};
        for (int k = 0; k < 4; k++) {
            Check.due("fault", kinds[k], Check.tell(valley, 0, other + faults[k]));
            Check.due("fault()", other.length() + (k == 2 ? 10 : 0), valley.fault());
            Check.dueAbout(valley, 0, 1, 1, 1, 7, 70);
            Check.dueRow(valley, 0, 4, 20, 0, 0, 17, 48);
            Check.due("count(3)", k + 1, valley.count(3));
        }
        Check.due("too many walls", 2, Check.tell(valley, 0, "level 9 1 30;".repeat(7)));
        Check.dueAbout(valley, 0, 1, 1, 1, 7, 70);
        Check.dueRow(valley, 0, 4, 20, 0, 0, 17, 48);
    }

    private static void statusCounts() {
        Check.sentence("STATUS: how many calls were refused: 0 of TEXTS with a FAULT");
        ClapValley valley = new ClapValley();
        String[] faulty = {"x", "air 49;", "level 1 1 1;", "air 50;air 50;"};
        for (int kind = 1; kind <= 4; kind++) {
            Check.due("fault", kind, Check.tell(valley, 0, faulty[kind - 1]));
            Check.dueCounts(valley, "behind " + kind + " faults", 0, 0, 0, kind, 0, 0, 0);
        }
        Check.due("a good text", 0, Check.tell(valley, 0, "air 50;"));
        Check.dueCounts(valley, "behind a good text", 0, 0, 0, 4, 0, 0, 0);
    }

    private static void noSuchLand() {
        Check.sentence("NoSuchElementException: no such LAND (as everywhere).");
        ClapValley valley = Check.valleyOf(FULL);
        Check.tell(valley, 1, "x");
        Check.feed(valley, "air 80;");
        Check.dueNone(valley, "land(-1, 7)", () -> valley.land(-1, 7));
        Check.dueNone(valley, "land(6, 7)", () -> valley.land(6, 7));
        for (int far : Check.FAR) {
            Check.dueNone(valley, "land(" + far + ", 7)", () -> valley.land(far, 7));
        }
        Check.due("land(5, 7)", 0, valley.land(5, 7));
        Check.due("about(5, 4)", 80, valley.about(5, 4));
    }

    private static void notSoMany() {
        Check.sentence("IllegalArgumentException (behind that): the tape has not so many, n below 0 (nothing changes).");
        ClapValley valley = Check.valleyOf(FULL);
        Check.tell(valley, 1, " x");
        Check.dueIllegal(valley, "land(0, 1) of an empty tape", () -> valley.land(0, 1));
        Check.dueIllegal(valley, "land(0, -1) of an empty tape", () -> valley.land(0, -1));
        Check.feed(valley, "air 80; air 80");
        Check.dueIllegal(valley, "land(0, 21)", () -> valley.land(0, 21));
        Check.dueIllegal(valley, "land(0, -1)", () -> valley.land(0, -1));
        for (int far : Check.FAR) {
            Check.dueIllegal(valley, "land(0, " + far + ")", () -> valley.land(0, far));
        }
        Check.due("land(0, 20)", 4, valley.land(0, 20));
        Check.due("fault()", 8, valley.fault());
        Check.feed(valley, " ".repeat(693) + "air 80;");
        Check.dueIllegal(valley, "land(0, 701) of a full tape", () -> valley.land(0, 701));
        Check.due("land(0, 700) of a full tape", 0, valley.land(0, 700));
        Check.due("about(0, 4)", 80, valley.about(0, 4));
    }

    private static void landAhead() {
        Check.sentence("IllegalArgumentException (behind that)");
        ClapValley valley = new ClapValley();
        Check.dueNone(valley, "land(6, 1)", () -> valley.land(6, 1));
        Check.dueNone(valley, "land(-1, -1)", () -> valley.land(-1, -1));
    }
}
