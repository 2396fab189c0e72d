/** Promises 1 to 6: a new object, feed, land, fault, count, about. */
public final class LandTextTest {
    public static void main(String[] args) {
        newObject();
        feed();
        land();
        goodTexts();
        unfitTokens();
        tooMuch();
        tooLittleAndTwice();
        faultyLandStays();
        counts();
        Check.end();
    }

    private static void newObject() {
        ClapValley valley = new ClapValley();
        for (int land = 0; land < 6; land++) {
            dueAbout(valley, land, 0, 0, 0, 100, 100);
        }
        for (int what = 0; what < 7; what++) {
            Check.due("new: count(" + what + ")", 0, valley.count(what));
        }
        Check.due("new: fault()", -1, valley.fault());
        Check.due("new: restore()", false, valley.restore());
    }

    private static void dueAbout(ClapValley valley, int land, int... all) {
        for (int what = 0; what < 5; what++) {
            Check.due("about(" + land + ", " + what + ")", all[what], valley.about(land, what));
        }
        Check.dueNone("about(" + land + ", 5)", () -> valley.about(land, 5));
        Check.dueNone("about(" + land + ", -1)", () -> valley.about(land, -1));
        Check.dueNone("about(6, 0)", () -> valley.about(6, 0));
        Check.dueNone("about(-1, 0)", () -> valley.about(-1, 0));
    }

    private static void feed() {
        ClapValley valley = new ClapValley();
        for (int k = 1; k <= 35; k++) {
            Check.due("feed " + k, 20 * k, valley.feed(0x61697220, 0x37303b68, 0x65617273, 0x20333b20, 0x20202020));
        }
        Check.due("feed 36", -1, valley.feed(0, 0, 0, 0, 0));
        Check.due("count(0)", 700, valley.count(0));
        Check.due("land(2, 16)", 0, valley.land(2, 16));
        dueAbout(valley, 2, 0, 0, 0, 3, 70);
        Check.due("count(0)", 0, valley.count(0));
        Check.due("feed", 20, valley.feed(-1, -1, -1, -1, -1));
        Check.due("land of bytes 255", 1, valley.land(2, 20));
        Check.due("fault()", 0, valley.fault());
    }

    private static void land() {
        ClapValley valley = new ClapValley();
        Check.feed(valley, "air 70;hears 7; junk");
        Check.dueNone("land(6, 7)", () -> valley.land(6, 7));
        Check.dueNone("land(-1, 7)", () -> valley.land(-1, 7));
        Check.dueNone("land(6, 21)", () -> valley.land(6, 21));
        Check.dueIllegal("land(0, 21)", () -> valley.land(0, 21));
        Check.dueIllegal("land(0, -1)", () -> valley.land(0, -1));
        Check.due("count(0)", 20, valley.count(0));
        Check.due("count(3)", 0, valley.count(3));
        Check.due("land(5, 15)", 0, valley.land(5, 15));
        dueAbout(valley, 5, 0, 0, 0, 7, 70);
        dueAbout(valley, 4, 0, 0, 0, 100, 100);
        Check.dueIllegal("land(5, 1)", () -> valley.land(5, 1));
        dueAbout(valley, 5, 0, 0, 0, 7, 70);
        Check.due("land(5, 0)", 0, valley.land(5, 0));
        dueAbout(valley, 5, 0, 0, 0, 100, 100);
        // What is on the tape behind n is no part of the text, not even of its last token.
        Check.feed(valley, "air 1000;");
        Check.due("land(0, 7) of air 1000", 1, valley.land(0, 7));
        Check.due("fault() of air 1000", 7, valley.fault());
        Check.feed(valley, "air 70;air 71;");
        Check.due("land(0, 7) of two airs", 0, valley.land(0, 7));
        Check.due("about(0, 4)", 70, valley.about(0, 4));
    }

    private static void dueText(String text, int fault, int place) {
        ClapValley valley = new ClapValley();
        Check.due("text \"" + text + "\"", fault, Check.tell(valley, 3, text));
        Check.due("fault() of \"" + text + "\"", place, valley.fault());
        Check.due("count(3) of \"" + text + "\"", fault == 0 ? 0 : 1, valley.count(3));
    }

    private static void dueGood(String text) {
        dueText(text, 0, -1);
    }

    private static void goodTexts() {
        dueGood("");
        dueGood(" \n ");
        dueGood("\nupright\n5\n0\n10\n;\n");
        dueGood("upright5 0 10loss50;level0 0 40;");
        dueGood("upright 0005 0000 0040;");
        dueGood("upright 5 0 10 loss 100;");
        dueGood("barn 5 6 years 5 5;");
        dueGood("barn 5 6 years 0 99;");
        dueGood("barn 5 6 years 99 99;");
        dueGood("wood 40 40 40 40 0 0 0;");
        dueGood("barn 40 40 loss 4 years 5 6;");
        dueGood("wood 5 6 5 6 0 100 3;");
        dueGood("hears 1000;air 50;");
        dueGood("air 150;hears 0;");
        ClapValley valley = Check.valleyOf("level 1 2 3;".repeat(6) + "barn 1 2;".repeat(6)
                + "wood 1 1 2 2 1 1 1;".repeat(4) + "hears 8;air 99;");
        dueAbout(valley, 0, 6, 6, 4, 8, 99);
    }

    private static void unfitTokens() {
        dueText("x", 1, 0);
        dueText("  airs 70;", 1, 2);
        dueText("ai", 1, 0);
        dueText("airz 70;", 1, 0);
        dueText("aair 70;", 1, 0);
        dueText("Air 70;", 1, 0);
        dueText("12345", 1, 0);
        dueText(";", 1, 0);
        dueText("upright", 1, 7);
        dueText("upright;", 1, 7);
        dueText("upright 5 0 10", 1, 14);
        dueText("upright 5 0 10  ", 1, 16);
        dueText("upright 5 0 10;;", 1, 15);
        dueText("upright 5 loss 3;", 1, 10);
        dueText("upright 5 0 10 loss;", 1, 19);
        dueText("upright 5 0 10 years 1 2;", 1, 15);
        dueText("upright 5 0 10 11;", 1, 15);
        dueText("upright 5 0 10 55555;", 1, 15);
        dueText("barn 5 6 loss 4 loss 4;", 1, 16);
        dueText("barn 5 6 years 5 5 loss 4;", 1, 19);
        dueText("barn 5 6 years 5;", 1, 16);
        dueText("wood 5 6 5 6 1 2;", 1, 16);
        dueText("wood 5 6 5 6 1 2 3 loss 4;", 1, 19);
        dueText("air\t70;", 1, 3);
        dueText("air 70,", 1, 6);
        dueText("air 70\r;", 1, 6);
        dueText("air -70;", 1, 4);
        dueText("hears 7" + (char) 0 + ";", 1, 7);
        dueText("hears 7" + (char) 233 + ";", 1, 7);
    }

    private static void tooMuch() {
        dueText("upright 41 0 10;", 2, 8);
        dueText("upright 5 41 10;", 2, 10);
        dueText("upright 5 0 41;", 2, 12);
        dueText("upright 00005 0 10;", 2, 8);
        dueText("upright 5 10 00009;", 2, 13);
        dueText("upright 5 0 12345 ", 2, 12);
        dueText("upright 5 0 10 loss 101;", 2, 20);
        dueText("upright 99999999999 0 10;", 2, 8);
        dueText("level 41 0 10;", 2, 6);
        dueText("barn 41 6;", 2, 5);
        dueText("barn 5 41;", 2, 7);
        dueText("barn 5 6 loss 101;", 2, 14);
        dueText("barn 5 6 years 100 5;", 2, 15);
        dueText("barn 5 6 years 5 100;", 2, 17);
        dueText("wood 41 6 5 6 1 2 3;", 2, 5);
        dueText("wood 5 41 5 6 1 2 3;", 2, 7);
        dueText("wood 5 6 41 6 1 2 3;", 2, 9);
        dueText("wood 5 6 5 41 1 2 3;", 2, 11);
        dueText("wood 5 6 5 6 101 2 3;", 2, 13);
        dueText("wood 5 6 5 6 1 2 101;", 2, 17);
        dueText("hears 1001;", 2, 6);
        dueText("air 49;", 2, 4);
        dueText("air 151;", 2, 4);
        dueText("level 1 2 3;".repeat(6) + "upright", 2, 72);
        dueText("level 1 2 3;".repeat(6) + "level x", 2, 72);
        dueText("barn 1 2;".repeat(6) + " barn 1 2;", 2, 55);
        dueText("wood 1 1 2 2 1 1 1;".repeat(4) + "wood 1 1 2 2 1 1 1;", 2, 76);
    }

    private static void tooLittleAndTwice() {
        dueText("upright 5 10 10;", 3, 13);
        dueText("upright 5 10 9;x", 3, 13);
        dueText("level 5 40 40;", 3, 11);
        dueText("barn 5 6 years 5 4;", 3, 17);
        dueText("wood 5 6 4 6 1 2 3;", 3, 9);
        dueText("wood 5 6 5 5 1 2 3;", 3, 11);
        dueText("hears 0;hears 0;", 4, 8);
        dueText("hears 0;air 100;hears", 4, 16);
        dueText("air 70;\nair 70;", 4, 8);
        dueText("air 70;air 70;x", 4, 7);
        dueText("air 70;x;air 70;", 1, 7);
    }

    private static void faultyLandStays() {
        ClapValley valley = Check.valleyOf("upright 10 0 20;barn 3 3;wood 1 1 2 2 1 1 1;hears 7;air 70;");
        Check.due("fault", 3, Check.tell(valley, 0, "level 9 1 30;barn 5 5;barn 4 4;hears 8;air 99;level 9 9 9;"));
        dueAbout(valley, 0, 1, 1, 1, 7, 70);
        Check.due("clap", 17, valley.clap(0, 4, 20, 0, 0, 0));
        Check.due("count(3)", 1, valley.count(3));
        Check.due("good one", 0, Check.tell(valley, 0, "barn 3 3;"));
        Check.due("fault()", -1, valley.fault());
        dueAbout(valley, 0, 0, 1, 0, 100, 100);
    }

    private static void counts() {
        ClapValley valley = new ClapValley();
        Check.feed(valley, "air 70;");
        valley.station(0, 0, 0, 0);
        valley.station(1, 0, 0, 0);
        valley.spot(1, 1);
        valley.spot(1, 2);
        valley.spot(1, 3);
        int[] due = {20, 2, 3, 0, 0, 0, 0};
        for (int what = 0; what < 7; what++) {
            Check.due("count(" + what + ")", due[what], valley.count(what));
        }
        Check.dueNone("count(7)", () -> valley.count(7));
        Check.dueNone("count(-1)", () -> valley.count(-1));
    }
}
