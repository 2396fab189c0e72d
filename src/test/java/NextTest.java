/** Promises 18 and 19: spot, next. */
public final class NextTest {
    public static void main(String[] args) {
        spots();
        claps();
        afterWhatIsHeard();
        yearsAndTones();
        wrongInputs();
        Check.end();
    }

    private static void spots() {
        ClapValley valley = new ClapValley();
        Check.due("spot(41, 0)", -1, valley.spot(41, 0));
        Check.due("spot(0, 41)", -1, valley.spot(0, 41));
        Check.due("spot(-1, -1)", -1, valley.spot(-1, -1));
        for (int s = 0; s < 8; s++) {
            Check.due("spot", s, valley.spot(40, s % 2));
        }
        Check.due("the 9th spot", -1, valley.spot(0, 0));
        Check.due("count(6)", 4, valley.count(6));
        Check.due("count(2)", 8, valley.count(2));
    }

    private static void dueNext(ClapValley valley, int lands, int claps, int first) {
        Check.due("next(" + lands + ", 0, 0, 0)", claps, valley.next(lands, 0, 0, 0));
        Check.due("next(" + lands + ", 0, 0, 1)", first, valley.next(lands, 0, 0, 1));
    }

    private static void claps() {
        ClapValley valley = new ClapValley();
        Check.tell(valley, 1, "upright 10 0 2;");
        Check.tell(valley, 2, "upright 10 20 22;");
        Check.tell(valley, 3, "upright 10 0 2;upright 10 20 22;");
        Check.tell(valley, 4, "upright 10 0 2;hears 0;");
        dueNext(valley, 3, -1, -1);
        valley.spot(30, 30);
        dueNext(valley, 3, -1, -1);
        valley.spot(0, 1);
        dueNext(valley, 3, 1, 1);
        dueNext(valley, 5, -1, -1);
        dueNext(valley, 15, -1, -1);
        valley.spot(0, 21);
        valley.spot(0, 2);
        dueNext(valley, 3, 1, 1);
        dueNext(valley, 5, 1, 2);
        dueNext(valley, 15, 2, 1);
        dueNext(valley, 6, 1, 1);
        dueNext(valley, 18, -1, -1);
        dueNext(valley, 31, -1, -1);
        dueNext(valley, 0, 0, -1);
        for (int land = 0; land < 6; land++) {
            dueNext(valley, 1 << land, 0, -1);
        }
        // Rows of one length are told apart by their ticks.
        Check.tell(valley, 5, "upright 12 0 2;");
        dueNext(valley, 2 + 32, 1, 1);
        dueNext(valley, 1 + 2 + 32, 1, 1);
    }

    private static void afterWhatIsHeard() {
        // Which clap comes second depends on what the first one told: spot 2, then 0 or 1.
        ClapValley valley = new ClapValley();
        Check.tell(valley, 1, "upright 10 0 0" + "1;");
        Check.tell(valley, 2, "upright 10 20 21;");
        Check.tell(valley, 3, "upright 10 10 11;upright 10 20 21;");
        valley.spot(0, 0);
        valley.spot(0, 10);
        valley.spot(0, 20);
        dueNext(valley, 15, 2, 2);
        dueNext(valley, 13, 2, 1);
        dueNext(valley, 12, 1, 1);
        dueNext(valley, 3, 1, 0);
        // The last of six lands that each spot tells from all others but no more needs five claps.
        valley = new ClapValley();
        for (int k = 1; k < 6; k++) {
            Check.tell(valley, k, "upright 10 " + 5 * k + " " + (5 * k + 1) + ";");
        }
        for (int k = 5; k >= 1; k--) {
            valley.spot(0, 5 * k);
        }
        dueNext(valley, 63, 5, 0);
        dueNext(valley, 62, 4, 0);
        dueNext(valley, 6, 1, 3);
    }

    private static void yearsAndTones() {
        ClapValley valley = new ClapValley();
        Check.tell(valley, 1, "barn 0 5 years 10 20;wood 0 3 0 4 0 99 0;");
        valley.spot(0, 0);
        Check.due("next in year 9", -1, valley.next(3, 9, 0, 0));
        Check.due("next in year 10", 1, valley.next(3, 10, 0, 0));
        Check.due("next in year 10, first", 0, valley.next(3, 10, 0, 1));
        Check.due("next by tone 1", -1, valley.next(3, 10, 1, 0));
        Check.due("next by tone 2", 1, valley.next(3, 10, 2, 0));
    }

    private static void wrongInputs() {
        ClapValley valley = new ClapValley();
        Check.dueIllegal("next(64, ..)", () -> valley.next(64, 0, 0, 0));
        Check.dueIllegal("next(-1, ..)", () -> valley.next(-1, 0, 0, 0));
        Check.dueNone("next(64, 100, ..)", () -> valley.next(64, 100, 0, 0));
        Check.dueNone("next(64, -1, ..)", () -> valley.next(64, -1, 0, 0));
        Check.dueNone("next(64, 0, 3, ..)", () -> valley.next(64, 0, 3, 0));
        Check.dueNone("next(64, 0, -1, ..)", () -> valley.next(64, 0, -1, 0));
        Check.dueNone("next(64, 0, 0, 2)", () -> valley.next(64, 0, 0, 2));
        Check.dueNone("next(3, 0, 0, -1)", () -> valley.next(3, 0, 0, -1));
    }
}
