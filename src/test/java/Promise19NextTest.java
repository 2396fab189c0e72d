/** Promise 19: next. */
public final class Promise19NextTest {
    public static void main(String[] args) {
        ofOneOrNone();
        noSpots();
        cantBe();
        likeRows();
        leastSpot();
        leastNumber();
        inAllOrders();
        whateverIsHeard();
        asManyAsThereCanBe();
        yearsAndTones();
        everyLand();
        noSuch();
        bitsBehind();
        Check.end();
    }

    private static void dueNext(ClapValley valley, int lands, int claps, int first) {
        Check.due("next(" + lands + ", 0, 0, 0)", claps, valley.next(lands, 0, 0, 0));
        Check.due("next(" + lands + ", 0, 0, 1)", first, valley.next(lands, 0, 0, 1));
    }

    private static void ofOneOrNone() {
        Check.sentence("(0 of one or none");
        ClapValley valley = new ClapValley();
        for (int spots = 0; spots < 2; spots++) {
            dueNext(valley, 0, 0, -1);
            for (int land = 0; land < 6; land++) {
                dueNext(valley, 1 << land, 0, -1);
            }
            valley.spot(0, 0);
        }
    }

    private static void noSpots() {
        Check.sentence("none, if it can't be");
        ClapValley valley = Check.valleyOf("upright 10 0 40;");
        dueNext(valley, 3, -1, -1);
        dueNext(valley, 63, -1, -1);
        valley.spot(0, 0);
        dueNext(valley, 3, 1, 0);
        valley.clear();
        dueNext(valley, 3, -1, -1);
    }

    private static void cantBe() {
        Check.sentence("how many claps (what 0; NONE), the first SPOT (1; NONE: none, or 0 claps)");
        ClapValley valley = Check.valleyOf("upright 10 0 2;");
        Check.tell(valley, 1, "upright 10 20 22;");
        Check.tell(valley, 2, "upright 10 0 2;hears 0;");
        valley.spot(30, 30);
        dueNext(valley, 3, -1, -1);
        valley.spot(0, 1);
        dueNext(valley, 3, 1, 1);
        // Lands 0 and 2 are alike everywhere, so nothing helps a set with both.
        dueNext(valley, 5, -1, -1);
        dueNext(valley, 7, -1, -1);
        dueNext(valley, 13, -1, -1);
        dueNext(valley, 9, 1, 1);
    }

    private static void likeRows() {
        Check.sentence("(LANDS of like ROWS aren't told apart by a SPOT.)");
        ClapValley valley = new ClapValley();
        valley.spot(0, 0);
        Check.tell(valley, 0, "barn 0 5;barn 0 6;");
        Check.tell(valley, 1, "level 6 0 9;upright 5 9 10;barn 5 0;");
        // The same ticks of other echoes.
        dueNext(valley, 3, -1, -1);
        Check.tell(valley, 1, "level 6 0 9;upright 5 9 10;");
        dueNext(valley, 3, 1, 0);
        // As many ticks, the last one other.
        Check.tell(valley, 1, "barn 0 5;barn 0 7;");
        dueNext(valley, 3, 1, 0);
        // Lands that differ in what can't be heard, and of airs that cut down to the same.
        Check.tell(valley, 1, "barn 0 5;barn 0 6;barn 9 9 loss 100;air 100;hears 500;");
        dueNext(valley, 3, -1, -1);
        Check.tell(valley, 1, "barn 0 5;barn 0 6;air 99;");
        dueNext(valley, 3, -1, -1);
        Check.tell(valley, 1, "barn 0 5;barn 0 6;air 101;");
        dueNext(valley, 3, 1, 0);
        // As long as can be: of 16 echoes the greatest is one more.
        String court = "upright 0 0 40;level 0 0 40;upright 40 0 40;barn 10 31;barn 10 32;barn 10 33;barn 10 34;barn 10 35;";
        valley.clear();
        valley.spot(10, 30);
        Check.tell(valley, 0, court + "level 40 0 40;barn 39 0;");
        Check.tell(valley, 1, court + "level 40 0 40;barn 40 0;");
        Check.due("16 echoes", 16, valley.clap(0, 10, 30, 0, 0, -1));
        dueNext(valley, 3, 1, 0);
        Check.tell(valley, 1, court + "level 40 0 40;barn 39 0;");
        dueNext(valley, 3, -1, -1);
    }

    private static void leastSpot() {
        Check.sentence("the first SPOT by which it is so, the least");
        ClapValley valley = new ClapValley();
        Check.tell(valley, 1, "upright 10 0 2;");
        Check.tell(valley, 2, "upright 10 20 22;");
        Check.tell(valley, 3, "upright 10 0 2;upright 10 20 22;");
        valley.spot(30, 30);
        valley.spot(0, 1);
        valley.spot(0, 21);
        valley.spot(0, 2);
        dueNext(valley, 3, 1, 1);
        dueNext(valley, 5, 1, 2);
        dueNext(valley, 6, 1, 1);
        dueNext(valley, 15, 2, 1);
        // The last of as many spots as there can be.
        valley.clear();
        for (int s = 0; s < 7; s++) {
            valley.spot(30, 30);
        }
        valley.spot(0, 1);
        dueNext(valley, 3, 1, 7);
        dueNext(valley, 5, -1, -1);
    }

    private static void inAllOrders() {
        Check.sentence("the least number of claps by which, whatever ROW is heard, it is known which");
        // Three lands, wherever they are told: one spot tells one of them from the others, another spot all of them.
        String[] texts = {"upright 10 0 1;", "upright 10 20 21;", "upright 12 20 21;"};
        for (int[] lands : new int[][] {{0, 1, 2}, {2, 0, 1}, {1, 2, 0}, {3, 4, 5}, {5, 3, 4}, {4, 5, 3}, {0, 2, 5}, {5, 0, 2}}) {
            ClapValley valley = new ClapValley();
            int bits = 0;
            for (int k = 0; k < 3; k++) {
                Check.tell(valley, lands[k], texts[k]);
                bits |= 1 << lands[k];
            }
            valley.spot(0, 0);
            dueNext(valley, bits, -1, -1);
            valley.spot(0, 20);
            dueNext(valley, bits, 1, 1);
            // The better one first.
            valley.clear();
            valley.spot(0, 20);
            valley.spot(0, 0);
            dueNext(valley, bits, 1, 0);
            // Two spots of which none tells all at once; the one first that leaves two behind it.
            Check.tell(valley, lands[2], "upright 10 20 21;upright 10 30 31;");
            valley.clear();
            valley.spot(0, 30);
            valley.spot(0, 0);
            dueNext(valley, bits, 2, 0);
            valley.clear();
            valley.spot(0, 0);
            dueNext(valley, bits, -1, -1);
        }
    }

    private static void leastNumber() {
        Check.sentence("the least number of claps");
        // Spot 0 parts 0 from 1, 2; spot 1 parts all three at once.
        ClapValley valley = new ClapValley();
        Check.tell(valley, 0, "upright 10 0 1;");
        Check.tell(valley, 1, "upright 10 20 21;");
        Check.tell(valley, 2, "upright 12 20 21;");
        valley.spot(0, 0);
        dueNext(valley, 7, -1, -1);
        valley.spot(0, 20);
        dueNext(valley, 7, 1, 1);
        dueNext(valley, 3, 1, 0);
        dueNext(valley, 6, 1, 1);
        dueNext(valley, 5, 1, 0);
    }

    private static void whateverIsHeard() {
        Check.sentence("by which, whatever ROW is heard, it is known which");
        // Which clap comes second depends on what the first one told: spot 2, then 0 or 1.
        ClapValley valley = new ClapValley();
        Check.tell(valley, 1, "upright 10 0 1;");
        Check.tell(valley, 2, "upright 10 20 21;");
        Check.tell(valley, 3, "upright 10 10 11;upright 10 20 21;");
        valley.spot(0, 0);
        valley.spot(0, 10);
        valley.spot(0, 20);
        dueNext(valley, 15, 2, 2);
        dueNext(valley, 13, 2, 1);
        dueNext(valley, 12, 1, 1);
        dueNext(valley, 3, 1, 0);
        dueNext(valley, 14, 2, 0);
    }

    private static void asManyAsThereCanBe() {
        Check.sentence("some of LANDS (bits) may be it");
        // Each spot tells one land from all others, and no more.
        ClapValley valley = new ClapValley();
        for (int k = 1; k < 6; k++) {
            Check.tell(valley, k, "upright 10 " + 5 * k + " " + (5 * k + 1) + ";");
        }
        for (int k = 5; k >= 1; k--) {
            valley.spot(0, 5 * k);
        }
        dueNext(valley, 63, 5, 0);
        dueNext(valley, 62, 4, 0);
        dueNext(valley, 31, 4, 1);
        dueNext(valley, 7, 2, 3);
        dueNext(valley, 6, 1, 3);
        dueNext(valley, 48, 1, 0);
        // One spot that tells all six at once.
        valley.clear();
        for (int k = 0; k < 6; k++) {
            Check.tell(valley, k, "upright " + (10 + k) + " 0 1;");
        }
        valley.spot(0, 0);
        dueNext(valley, 63, 1, 0);
    }

    private static void yearsAndTones() {
        Check.sentence("in a year, by a TONE");
        ClapValley valley = new ClapValley();
        Check.tell(valley, 1, "barn 0 5 years 10 20;wood 0 3 0 4 0 99 0;");
        valley.spot(0, 0);
        int[][] due = {{9, 0, -1}, {10, 0, 1}, {20, 0, 1}, {21, 0, -1}, {10, 1, -1}, {10, 2, 1}};
        for (int[] d : due) {
            Check.due("next in " + d[0] + " by tone " + d[1], d[2], valley.next(3, d[0], d[1], 0));
            Check.due("next in " + d[0] + " by tone " + d[1] + ", first", d[2] == 1 ? 0 : -1, valley.next(3, d[0], d[1], 1));
        }
    }

    private static void everyLand() {
        Check.sentence("some of LANDS (bits) may be it");
        ClapValley valley = new ClapValley();
        valley.spot(0, 0);
        for (int land = 0; land < 6; land++) {
            Check.tell(valley, land, "barn 0 5;");
            for (int other = 0; other < 6; other++) {
                if (other != land) {
                    dueNext(valley, 1 << land | 1 << other, 1, 0);
                }
            }
            Check.tell(valley, land, "");
        }
        dueNext(valley, 63, -1, -1);
    }

    private static void noSuch() {
        Check.sentence("NoSuchElementException: no such year, TONE, what.");
        ClapValley valley = new ClapValley();
        Check.due("next of the last year and tone", -1, valley.next(63, 99, 2, 1));
        for (int lands : new int[] {-1, 0, 3, 63, 64}) {
            for (int far : Check.FAR) {
                Check.dueNone(valley, "next, year " + far, () -> valley.next(lands, far, 0, 0));
                Check.dueNone(valley, "next, tone " + far, () -> valley.next(lands, 0, far, 0));
                Check.dueNone(valley, "next, what " + far, () -> valley.next(lands, 0, 0, far));
            }
            Check.dueNone(valley, "next, year -1", () -> valley.next(lands, -1, 0, 0));
            Check.dueNone(valley, "next, year 100", () -> valley.next(lands, 100, 0, 0));
            Check.dueNone(valley, "next, tone -1", () -> valley.next(lands, 0, -1, 0));
            Check.dueNone(valley, "next, tone 3", () -> valley.next(lands, 0, 3, 0));
            Check.dueNone(valley, "next, what -1", () -> valley.next(lands, 0, 0, -1));
            Check.dueNone(valley, "next, what 2", () -> valley.next(lands, 0, 0, 2));
        }
    }

    private static void bitsBehind() {
        Check.sentence("IllegalArgumentException (behind that): bits are not 0 to 63.");
        ClapValley valley = new ClapValley();
        dueNext(valley, 0, 0, -1);
        dueNext(valley, 63, -1, -1);
        for (int lands : new int[] {-1, 64, 65, Check.FAR[0], Check.FAR[1], Check.FAR[2], Check.FAR[3]}) {
            Check.dueIllegal(valley, "next(" + lands + ", 0, 0, 0)", () -> valley.next(lands, 0, 0, 0));
            Check.dueIllegal(valley, "next(" + lands + ", 99, 2, 1)", () -> valley.next(lands, 99, 2, 1));
        }
    }
}
