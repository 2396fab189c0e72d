/** Promise 17: plans. */
public final class Promise17PlansTest {
    public static void main(String[] args) {
        perhapsNone();
        atMostThree();
        noPlan();
        firstAndLastLines();
        inOrder();
        nothingHides();
        byAnAir();
        eachNamedStation();
        fullBook();
        thereIsNone();
        noSuchYear();
        noSuchAir();
        noNamedStation();
        yearAhead();
        Check.end();
    }

    private static void duePlans(ClapValley valley, int year, int air, int... plans) {
        String call = "plans(" + year + ", " + air + ", ";
        Check.due(call + "-1)", plans.length, valley.plans(year, air, -1));
        for (int i = 0; i < plans.length; i++) {
            int k = i;
            Check.due(call + i + ")", Integer.toString(plans[i]), Check.answer(() -> valley.plans(year, air, k)));
        }
        Check.dueNone(valley, call + plans.length + ")", () -> valley.plans(year, air, plans.length));
        Check.dueNone(valley, call + "-2)", () -> valley.plans(year, air, -2));
    }

    private static int plan(int... lines) {
        int[] three = {-1, -1, -1};
        System.arraycopy(lines, 0, three, 0, lines.length);
        return 6889 * (three[0] + 1) + 83 * (three[1] + 1) + three[2] + 1;
    }

    private static ClapValley stationOf(int x, int y, int... ticks) {
        ClapValley valley = new ClapValley();
        Check.write(valley, x, y, 7, 0, ticks);
        return valley;
    }

    private static void perhapsNone() {
        Check.sentence("sets of at most 3 (perhaps none) of 82 lines");
        // No line but those on which it lies.
        duePlans(stationOf(0, 0), 7, 100, 0, plan(0), plan(41), plan(0, 41));
        duePlans(stationOf(40, 40), 7, 100, 0, plan(40), plan(81), plan(40, 81));
        Check.sentence("its lines as 6889 by the least, 83 by the next, the third, together");
        duePlans(stationOf(0, 0), 7, 100, 0, 6889, 289338, 10375);
        duePlans(stationOf(40, 40), 7, 100, 0, 282449, 564898, 289255);
    }

    private static void atMostThree() {
        Check.sentence("sets of at most 3");
        duePlans(stationOf(20, 20, 4, 4, 4), 7, 100, plan(18, 22, 59), plan(18, 22, 63), plan(18, 59, 63), plan(22, 59, 63));
        duePlans(stationOf(20, 20, 4, 4, 4, 4), 7, 100);
        duePlans(stationOf(20, 40, 4, 4, 4), 7, 100, plan(18, 22, 79));
        duePlans(stationOf(20, 40, 4, 4, 4, 4), 7, 100);
        duePlans(stationOf(0, 0, 4, 4), 7, 100, plan(2, 43), plan(0, 2, 43), plan(2, 41, 43));
        duePlans(stationOf(0, 0, 4, 4, 4), 7, 100);
        duePlans(stationOf(20, 20, 1, 2, 3, 4, 5, 6, 7, 8, 9, 10, 11, 12), 7, 100);
    }

    private static void noPlan() {
        Check.sentence("How many");
        duePlans(stationOf(0, 0, 3), 7, 100);
        duePlans(stationOf(0, 0, 0), 7, 100);
        duePlans(stationOf(0, 0, 82), 7, 100);
        duePlans(stationOf(0, 0, 9999), 7, 100);
        duePlans(stationOf(20, 20, 42), 7, 100);
    }

    private static void firstAndLastLines() {
        Check.sentence("UPRIGHT x 0 to 40 (0 to 40), LEVEL y 0 to 40 (41 to 81)");
        duePlans(stationOf(40, 40, 80), 7, 100, plan(0), plan(41), plan(0, 40), plan(0, 81), plan(40, 41), plan(41, 81),
                plan(0, 40, 81), plan(40, 41, 81));
        duePlans(stationOf(0, 0, 80), 7, 100, plan(40), plan(81), plan(0, 40), plan(0, 81), plan(40, 41), plan(41, 81),
                plan(0, 40, 41), plan(0, 41, 81));
        duePlans(stationOf(20, 20, 40), 7, 100, plan(0), plan(40), plan(41), plan(81), plan(0, 20), plan(0, 61),
                plan(20, 40), plan(20, 41), plan(20, 81), plan(40, 61), plan(41, 61), plan(61, 81), plan(0, 20, 61),
                plan(20, 40, 61), plan(20, 41, 61), plan(20, 61, 81));
    }

    private static void inOrder() {
        Check.sentence("the i-th, fewer lines first, then as rows of numbers");
        duePlans(stationOf(0, 40, 4, 2), 7, 100, plan(1, 2), plan(1, 79), plan(2, 80), plan(79, 80), plan(0, 1, 2),
                plan(0, 1, 79), plan(0, 2, 80), plan(0, 79, 80), plan(1, 2, 81), plan(1, 79, 81), plan(2, 80, 81), plan(79, 80, 81));
    }

    private static void nothingHides() {
        Check.sentence("of straight lines without ends (nothing hides, all are HEARD, no SECOND echoes, AIR told)");
        // Three lines one behind the other, far from where any land's walls would end.
        ClapValley valley = stationOf(0, 0, 2, 4, 6);
        Check.due("plans, one behind the other", plan(1, 2, 3), valley.plans(7, 100, 0));
        Check.due("plans, how many", 8, valley.plans(7, 100, -1));
        // Of two lines on both sides there is no tick of both ways together.
        duePlans(stationOf(20, 0, 20, 20, 40), 7, 100, plan(0, 10, 30), plan(0, 10, 51), plan(0, 30, 51), plan(10, 30, 40),
                plan(10, 30, 61), plan(10, 40, 51), plan(10, 51, 61), plan(30, 40, 51), plan(30, 51, 61));
        // The lands, their air and what they hear are no matter.
        Check.tell(valley, 0, "air 50;hears 1000;wood 0 0 40 40 100 100 100;");
        Check.due("plans beside a land", plan(1, 2, 3), valley.plans(7, 100, 0));
    }

    private static void byAnAir() {
        Check.sentence("by the straight way there and back; none of a line on which it lies");
        ClapValley valley = stationOf(0, 0, 4);
        duePlans(valley, 7, 150, plan(3), plan(44), plan(0, 3), plan(0, 44), plan(3, 41), plan(41, 44), plan(0, 3, 41), plan(0, 41, 44));
        duePlans(valley, 7, 50, plan(1), plan(42), plan(0, 1), plan(0, 42), plan(1, 41), plan(41, 42), plan(0, 1, 41), plan(0, 41, 42));
        // 200 by 149 and by 150 is 1, 400 by them 2.
        duePlans(stationOf(0, 0, 1), 7, 150, plan(1), plan(42), plan(0, 1), plan(0, 42), plan(1, 41), plan(41, 42),
                plan(0, 1, 41), plan(0, 41, 42));
        duePlans(stationOf(0, 0, 1), 7, 100);
        duePlans(stationOf(0, 0, 3), 7, 150);
        // The longest way: 8000 by 50.
        Check.due("the longest way", plan(40), stationOf(0, 0, 160).plans(7, 50, 0));
        Check.due("longer than that", 0, stationOf(0, 0, 161).plans(7, 50, -1));
    }

    private static void eachNamedStation() {
        Check.sentence("by which at each named STATION of a year TICKS of all lines");
        ClapValley valley = new ClapValley();
        // Lines x 30, y 25, and one on which the second station lies.
        Check.write(valley, 10, 5, 7, 0, 40, 40, 12);
        Check.write(valley, 16, 11, 7, 2, 28, 28);
        Check.write(valley, -1, -1, 7, 2, 99);
        Check.write(valley, 16, 11, 6, 2, 99);
        Check.write(valley, 16, 11, 8, 2, 99);
        duePlans(valley, 7, 100, plan(16, 30, 66), plan(30, 52, 66));
        Check.write(valley, 0, 11, 7, 0, 60, 28);
        duePlans(valley, 7, 100, plan(30, 52, 66));
        Check.write(valley, 0, 11, 7, 0, 60, 27);
        duePlans(valley, 7, 100);
        duePlans(valley, 6, 100);
    }

    private static void fullBook() {
        Check.sentence("at each named STATION of a year");
        ClapValley valley = new ClapValley();
        for (int s = 0; s < 20; s++) {
            Check.write(valley, s, 0, 3, 0, 40);
        }
        // The line at y 20, and perhaps the one on which they all lie.
        duePlans(valley, 3, 100, plan(61), plan(41, 61));
        valley.tick(19, 40);
        duePlans(valley, 3, 100);
        // Of four ticks at one of them there is none, whatever the others have.
        valley.clear();
        Check.write(valley, 0, 0, 3, 0);
        Check.write(valley, 0, 0, 3, 0, 2, 2, 4, 4);
        duePlans(valley, 3, 100);
    }

    private static void thereIsNone() {
        Check.sentence("NoSuchElementException: no such year, there is none.");
        ClapValley valley = stationOf(0, 0);
        Check.due("plans(7, 100, 0)", 0, valley.plans(7, 100, 0));
        Check.due("plans(7, 100, 3)", plan(0, 41), valley.plans(7, 100, 3));
        for (int i : new int[] {-2, 4, Check.FAR[0], Check.FAR[1], Check.FAR[2], Check.FAR[3]}) {
            Check.dueNone(valley, "plans(7, 100, " + i + ")", () -> valley.plans(7, 100, i));
        }
        ClapValley none = stationOf(0, 0, 3);
        Check.dueNone(none, "plans(7, 100, 0) of none", () -> none.plans(7, 100, 0));
    }

    private static void noSuchYear() {
        Check.sentence("no such year");
        ClapValley valley = new ClapValley();
        Check.write(valley, 0, 0, 0, 0);
        Check.write(valley, 0, 0, 99, 0, 3);
        Check.due("plans(0, 100, -1)", 4, valley.plans(0, 100, -1));
        Check.due("plans(99, 100, -1)", 0, valley.plans(99, 100, -1));
        for (int year : new int[] {-1, 100, Check.FAR[0], Check.FAR[1], Check.FAR[2], Check.FAR[3]}) {
            Check.dueNone(valley, "plans(" + year + ", 100, -1)", () -> valley.plans(year, 100, -1));
        }
    }

    private static void noSuchAir() {
        Check.sentence("IllegalArgumentException (behind the year): the AIR");
        ClapValley valley = stationOf(0, 0);
        Check.due("air 50", 4, valley.plans(7, 50, -1));
        Check.due("air 150", 4, valley.plans(7, 150, -1));
        for (int air : new int[] {49, 151, 0, -1, Check.FAR[0], Check.FAR[1], Check.FAR[2], Check.FAR[3]}) {
            Check.dueIllegal(valley, "plans(7, " + air + ", -1)", () -> valley.plans(7, air, -1));
            Check.dueIllegal(valley, "plans(7, " + air + ", 99)", () -> valley.plans(7, air, 99));
        }
    }

    private static void noNamedStation() {
        Check.sentence("or no named STATION of that year");
        ClapValley valley = new ClapValley();
        Check.dueIllegal(valley, "no station", () -> valley.plans(7, 100, -1));
        Check.write(valley, -1, -1, 7, 0);
        Check.dueIllegal(valley, "no named station", () -> valley.plans(7, 100, -1));
        Check.dueIllegal(valley, "no named station, no plan", () -> valley.plans(7, 100, 99));
        Check.write(valley, 0, 0, 6, 0);
        Check.write(valley, 0, 0, 8, 0);
        Check.dueIllegal(valley, "none of that year", () -> valley.plans(7, 100, -1));
        Check.write(valley, 0, 0, 7, 0);
        Check.due("one of that year", 4, valley.plans(7, 100, -1));
        valley.clear();
        Check.dueIllegal(valley, "no station behind clear", () -> valley.plans(7, 100, -1));
    }

    private static void yearAhead() {
        Check.sentence("IllegalArgumentException (behind the year)");
        ClapValley valley = new ClapValley();
        Check.dueNone(valley, "plans(100, 49, -1)", () -> valley.plans(100, 49, -1));
        Check.dueNone(valley, "plans(-1, 151, -1)", () -> valley.plans(-1, 151, -1));
        Check.dueNone(valley, "plans(100, 100, -1) of no station", () -> valley.plans(100, 100, -1));
    }
}
