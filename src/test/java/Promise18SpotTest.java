/** Promise 18: spot. */
public final class Promise18SpotTest {
    public static void main(String[] args) {
        itsNumber();
        itsPlace();
        places();
        noneOfEight();
        oneRefusalACall();
        Check.end();
    }

    private static void itsNumber() {
        Check.sentence("A SPOT: its number.");
        ClapValley valley = new ClapValley();
        for (int s = 0; s < 8; s++) {
            Check.due("spot", s, valley.spot(40, s % 2));
            Check.dueCounts(valley, "behind spot " + s, 0, 0, s + 1, 0, 0, 0, 0);
        }
        valley.clear();
        Check.due("spot behind clear", 0, valley.spot(0, 0));
        Check.due("the same spot again", 1, valley.spot(0, 0));
    }

    private static void itsPlace() {
        Check.sentence("claps at PLACES told (SPOTS 0, 1 .. at most 8)");
        // Only at the barn's own place it isn't heard, so that nothing tells the lands apart.
        int[][] spots = {{3, 4}, {4, 3}, {0, 0}, {40, 0}, {0, 40}, {40, 40}, {40, 1}, {1, 40}};
        for (int barn = 0; barn < 8; barn++) {
            ClapValley valley = Check.valleyOf("barn " + spots[barn][0] + " " + spots[barn][1] + ";");
            valley.spot(spots[barn][0], spots[barn][1]);
            Check.due("next, a spot at the barn", -1, valley.next(3, 0, 0, 1));
            valley.clear();
            for (int s = 0; s < 8; s++) {
                Check.due("spot", s, valley.spot(spots[s][0], spots[s][1]));
            }
            Check.due("next's first spot", barn == 0 ? 1 : 0, valley.next(3, 0, 0, 1));
        }
    }

    private static void places() {
        Check.sentence("NONE (STATUS 3): there are 8, no such PLACE.");
        ClapValley valley = new ClapValley();
        int[][] corners = {{0, 0}, {40, 0}, {0, 40}, {40, 40}};
        for (int k = 0; k < 4; k++) {
            Check.due("spot in a corner", k, valley.spot(corners[k][0], corners[k][1]));
        }
        for (int wrong : new int[] {-2, -1, 41, Check.FAR[0], Check.FAR[1], Check.FAR[2], Check.FAR[3]}) {
            Check.dueRefused(valley, 3, "spot(" + wrong + ", 7)", () -> valley.spot(wrong, 7));
            Check.dueRefused(valley, 3, "spot(7, " + wrong + ")", () -> valley.spot(7, wrong));
            Check.dueRefused(valley, 3, "both " + wrong, () -> valley.spot(wrong, wrong));
        }
        Check.due("spot behind refusals", 4, valley.spot(7, 7));
        Check.due("count(6)", 21, valley.count(6));
    }

    private static void noneOfEight() {
        Check.sentence("NONE (STATUS 3): there are 8");
        ClapValley valley = Check.valleyOf("upright 10 0 2;");
        for (int s = 0; s < 7; s++) {
            valley.spot(0, 20);
        }
        Check.due("the 8th spot", 7, valley.spot(0, 21));
        Check.dueRefused(valley, 3, "the 9th spot", () -> valley.spot(0, 1));
        Check.dueRefused(valley, 3, "the 10th spot", () -> valley.spot(0, 1));
        // The refused ones are none: they would tell the lands apart.
        Check.due("next", -1, valley.next(3, 0, 0, 0));
        valley.clear();
        Check.due("spot behind clear", 0, valley.spot(0, 1));
        Check.due("next", 1, valley.next(3, 0, 0, 0));
    }

    private static void oneRefusalACall() {
        Check.sentence("STATUS: how many calls were refused");
        ClapValley valley = new ClapValley();
        Check.dueRefused(valley, 3, "both wrong", () -> valley.spot(41, -1));
        for (int s = 0; s < 8; s++) {
            valley.spot(0, 0);
        }
        Check.dueRefused(valley, 3, "wrong and full", () -> valley.spot(41, -1));
        Check.due("count(6)", 2, valley.count(6));
    }
}
