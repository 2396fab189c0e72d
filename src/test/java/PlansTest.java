/** Promise 17: plans. */
public final class PlansTest {
    public static void main(String[] args) {
        noTicks();
        oneTick();
        severalStations();
        wrongInputs();
        Check.end();
    }

    private static void duePlans(ClapValley valley, int year, int air, int... plans) {
        Check.due("plans, how many", plans.length, valley.plans(year, air, -1));
        for (int i = 0; i < plans.length; i++) {
            int k = i;
            Check.due("plans, " + i, Integer.toString(plans[i]), Check.answer(() -> valley.plans(year, air, k)));
        }
        Check.dueNone("plans, one more", () -> valley.plans(year, air, plans.length));
        Check.dueNone("plans, -2", () -> valley.plans(year, air, -2));
    }

    private static int plan(int a, int b, int c) {
        return 6889 * (a + 1) + 83 * (b + 1) + c + 1;
    }

    private static void noTicks() {
        ClapValley valley = new ClapValley();
        Check.write(valley, 0, 0, 7, 0);
        duePlans(valley, 7, 100, 0, 6889, 289338, 10375);
    }

    private static void oneTick() {
        ClapValley valley = new ClapValley();
        Check.write(valley, 0, 0, 7, 0, 4);
        duePlans(valley, 7, 150, plan(3, -1, -1), plan(44, -1, -1), plan(0, 3, -1), plan(0, 44, -1), plan(3, 41, -1),
                plan(41, 44, -1), plan(0, 3, 41), plan(0, 41, 44));
        duePlans(valley, 7, 50, plan(1, -1, -1), plan(42, -1, -1), plan(0, 1, -1), plan(0, 42, -1), plan(1, 41, -1),
                plan(41, 42, -1), plan(0, 1, 41), plan(0, 41, 42));
        Check.write(valley, 0, 0, 8, 0, 3);
        duePlans(valley, 8, 100);
        Check.write(valley, 20, 40, 9, 0, 4, 4, 4, 4);
        duePlans(valley, 9, 100);
        Check.write(valley, 20, 40, 10, 0, 4, 4, 4);
        duePlans(valley, 10, 100, plan(18, 22, 79));
        Check.write(valley, 20, 40, 11, 0, 80);
        duePlans(valley, 11, 100, plan(41, -1, -1), plan(20, 41, -1), plan(41, 81, -1), plan(20, 41, 81));
    }

    private static void severalStations() {
        ClapValley valley = new ClapValley();
        // Lines x 30, y 25, and one on which the second station lies.
        Check.write(valley, 10, 5, 7, 0, 40, 40, 12);
        Check.write(valley, 16, 11, 7, 2, 28, 28);
        Check.write(valley, -1, -1, 7, 2, 99);
        Check.write(valley, 16, 11, 6, 2, 99);
        duePlans(valley, 7, 100, plan(16, 30, 66), plan(30, 52, 66));
        Check.write(valley, 0, 11, 7, 0, 60, 28);
        duePlans(valley, 7, 100, plan(30, 52, 66));
        Check.write(valley, 0, 11, 7, 0, 60, 27);
        duePlans(valley, 7, 100);
    }

    private static void wrongInputs() {
        ClapValley valley = new ClapValley();
        Check.dueIllegal("no station", () -> valley.plans(7, 100, -1));
        Check.write(valley, -1, -1, 7, 0);
        Check.dueIllegal("no named station", () -> valley.plans(7, 100, -1));
        Check.dueIllegal("no named station, no plan", () -> valley.plans(7, 100, 99));
        Check.write(valley, 0, 0, 7, 0);
        Check.dueIllegal("none of that year", () -> valley.plans(8, 100, -1));
        Check.dueIllegal("air 49", () -> valley.plans(7, 49, -1));
        Check.dueIllegal("air 151", () -> valley.plans(7, 151, 99));
        Check.due("air 50", 4, valley.plans(7, 50, -1));
        Check.due("air 150", 4, valley.plans(7, 150, -1));
        Check.dueNone("year 100", () -> valley.plans(100, 49, -1));
        Check.dueNone("year -1", () -> valley.plans(-1, 100, -1));
    }
}
