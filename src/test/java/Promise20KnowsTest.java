import java.util.ArrayList;
import java.util.Collections;
import java.util.List;

/** Promise 20: knows. */
public final class Promise20KnowsTest {
    public static void main(String[] args) {
        allPlaces();
        onePlace();
        atTheWall();
        cutDownEach();
        earlierThanTheClap();
        sameOrAnother();
        putInOrder();
        noSecondEchoes();
        heardSecondsAreNoMatter();
        heardAtTheClap();
        footsOfWalls();
        yearAndTone();
        wrongInputs();
        Check.end();
    }

    /** The root, cut down, of 10,000 by the square of the way between two places. */
    private static int way(int ax, int ay, int bx, int by) {
        int square = 10000 * ((ax - bx) * (ax - bx) + (ay - by) * (ay - by));
        int root = 0;
        while ((root + 1) * (root + 1) <= square) {
            root++;
        }
        return root;
    }

    /** What a thief hears of barns that nothing hides; each is an x and a y. */
    private static List<Integer> heard(int x, int y, int hisX, int hisY, int air, int... barns) {
        List<Integer> ticks = new ArrayList<>();
        for (int b = 0; b < barns.length; b += 2) {
            if (barns[b] != x || barns[b + 1] != y) {
                int both = way(x, y, barns[b], barns[b + 1]) + way(barns[b], barns[b + 1], hisX, hisY);
                ticks.add(both / air - way(x, y, hisX, hisY) / air);
            }
        }
        Collections.sort(ticks);
        return ticks;
    }

    private static int places(int x, int y, int hisX, int hisY, int air, int... barns) {
        List<Integer> due = heard(x, y, hisX, hisY, air, barns);
        int found = 0;
        for (int place = 0; place < 1681; place++) {
            found += due.equals(heard(place % 41, place / 41, hisX, hisY, air, barns)) ? 1 : 0;
        }
        return found;
    }

    private static void allPlaces() {
        Check.sentence("how many of all 1681");
        ClapValley valley = new ClapValley();
        Check.due("knows, no echo", 1681, valley.knows(0, 0, 0, 40, 40));
        Check.due("knows, no echo", 1681, valley.knows(0, 40, 40, 40, 40));
        // The thief is at the barn: the way there and the straight way are one, so all is 0 but at the barn itself.
        Check.tell(valley, 0, "barn 20 20;");
        Check.due("knows at the barn", 1680, valley.knows(0, 3, 4, 20, 20));
    }

    private static void onePlace() {
        Check.sentence("KNOWS: PLACES at which the clap may have been by these TICKS");
        ClapValley valley = Check.valleyOf("barn 20 20;");
        Check.due("knows, the clap at the barn", 1, valley.knows(0, 20, 20, 20, 20));
        // By an air all ticks are cut down: only the barn's own place has no echo.
        Check.tell(valley, 0, "barn 0 1;air 150;");
        Check.due("knows, the clap at the barn", 1, valley.knows(0, 0, 1, 0, 0));
        for (int[] corner : new int[][] {{0, 0}, {40, 0}, {0, 40}, {40, 40}}) {
            Check.tell(valley, 0, "barn " + corner[0] + " " + corner[1] + ";");
            Check.due("knows, the clap in a corner", 1, valley.knows(0, corner[0], corner[1], 20, 20));
        }
    }

    private static void atTheWall() {
        Check.sentence("by the way from there to the foot (the BARN) and the way from that to him");
        ClapValley valley = Check.valleyOf("upright 10 0 40;");
        Check.due("straight across", 40, valley.knows(0, 4, 5, 10, 5));
        Check.due("on the line", 41, valley.knows(0, 10, 7, 10, 5));
        int as3And4 = 0;
        for (int x = 0; x <= 40; x++) {
            for (int y = 0; y <= 40; y++) {
                int across = Math.abs(x - 10);
                int both = 100 * across + 100 * Math.abs(y - 5);
                as3And4 += across != 0 && both / 100 - way(x, y, 10, 5) / 100 == 2 ? 1 : 0;
            }
        }
        Check.due("3 across and 4 along", as3And4, valley.knows(0, 13, 9, 10, 5));
        // And the same across the diagonal.
        Check.tell(valley, 0, "level 10 0 40;");
        Check.due("straight across", 40, valley.knows(0, 5, 4, 5, 10));
        Check.due("3 across and 4 along", as3And4, valley.knows(0, 9, 13, 5, 10));
    }

    private static void dueKnows(int air, int x, int y, int hisX, int hisY, int... barns) {
        StringBuilder text = new StringBuilder("air " + air + ";");
        for (int b = 0; b < barns.length; b += 2) {
            text.append("barn ").append(barns[b]).append(' ').append(barns[b + 1]).append(';');
        }
        ClapValley valley = Check.valleyOf(text.toString());
        Check.due("knows(0, " + x + ", " + y + ", " + hisX + ", " + hisY + ") in " + text,
                places(x, y, hisX, hisY, air, barns), valley.knows(0, x, y, hisX, hisY));
    }

    private static void cutDownEach() {
        Check.sentence("of each of both the root (cut down) of 10,000 by its square; both together, by AIR, cut down");
        // The root of 5 is 2.236: 223 and 223 by 149 is 2, though 447.2 by 149 is 3.
        Check.due("what the thief hears", "[-1]", heard(0, 0, 2, 4, 149, 1, 2).toString());
        for (int air : new int[] {50, 100, 149, 150}) {
            dueKnows(air, 0, 0, 2, 4, 1, 2);
            dueKnows(air, 7, 3, 9, 30, 20, 20);
            dueKnows(air, 40, 0, 0, 40, 40, 40);
        }
    }

    private static void earlierThanTheClap() {
        Check.sentence("less that of the straight way to him likewise (by AIR, cut down)");
        // The barn is on the straight way to him, so that only what is cut down is left.
        dueKnows(150, 0, 0, 3, 0, 1, 0);
        dueKnows(150, 0, 0, 3, 0, 2, 0);
        dueKnows(100, 5, 5, 30, 11, 17, 8);
        dueKnows(99, 5, 5, 30, 11, 17, 8);
    }

    private static void sameOrAnother() {
        Check.sentence("the THIEF being at another (or the same) one");
        dueKnows(100, 5, 5, 5, 5, 8, 9);
        dueKnows(50, 0, 0, 0, 0, 40, 40);
        dueKnows(100, 8, 9, 8, 9, 8, 9);
        dueKnows(100, 5, 5, 6, 5, 8, 9);
        ClapValley valley = Check.valleyOf("upright 10 0 40;");
        // Twice the way across, at his own place alone: others have a straight way.
        Check.due("at his own place", placesAtWall(4, 5), valley.knows(0, 4, 5, 4, 5));
    }

    private static int placesAtWall(int hisX, int hisY) {
        int found = 0;
        int due = 2 * Math.abs(hisX - 10);
        for (int place = 0; place < 1681; place++) {
            int x = place % 41;
            int y = place / 41;
            int both = 100 * Math.abs(x - 10) + way(10, y, hisX, hisY);
            found += x != 10 && both / 100 - way(x, y, hisX, hisY) / 100 == due ? 1 : 0;
        }
        return found;
    }

    private static void putInOrder() {
        Check.sentence("by these TICKS, put in order");
        // Left and right of his place the barns exchange their ticks.
        dueKnows(100, 5, 20, 20, 20, 10, 10, 30, 10);
        dueKnows(100, 35, 20, 20, 20, 10, 10, 30, 10);
        dueKnows(100, 5, 20, 20, 20, 30, 10, 10, 10);
        dueKnows(100, 13, 17, 20, 20, 10, 10, 30, 10, 10, 30, 30, 30, 20, 0, 0, 20);
        // As many as there can be: some of them alike.
        dueKnows(100, 1, 1, 2, 2, 10, 10, 10, 10, 10, 10, 10, 10, 10, 10, 10, 10);
    }

    private static void noSecondEchoes() {
        Check.sentence("of each FIRST one that is HEARD at the PLACE of the clap");
        ClapValley valley = Check.valleyOf("upright 0 0 40;level 0 0 40;");
        int found = 0;
        for (int place = 0; place < 1681; place++) {
            found += cornerTicks(place % 41, place / 41).equals(cornerTicks(3, 4)) ? 1 : 0;
        }
        Check.due("two walls in a corner", found, valley.knows(0, 3, 4, 0, 0));
        Check.due("in the corner itself", 1, valley.knows(0, 0, 0, 0, 0));
        // Ten first echoes, as many as there can be, and six second ones that don't come.
        Check.tell(valley, 0, "upright 0 0 40;level 0 0 40;upright 40 0 40;level 40 0 40;"
                + "barn 10 31;barn 10 32;barn 10 33;barn 10 34;barn 10 35;barn 10 36;");
        Check.due("sixteen echoes", 16, valley.clap(0, 10, 30, 0, 0, -1));
        Check.due("ten first echoes", 1, valley.knows(0, 10, 30, 10, 30));
    }

    /** Of walls at y 0 and y 40 and a thief at 20, 20. */
    private static List<Integer> lowAndHighTicks(int x, int y) {
        int straight = way(x, y, 20, 20) / 100;
        List<Integer> ticks = new ArrayList<>();
        if (y != 0) {
            ticks.add((100 * y + way(x, 0, 20, 20)) / 100 - straight);
        }
        if (y != 40) {
            ticks.add((100 * (40 - y) + way(x, 40, 20, 20)) / 100 - straight);
        }
        Collections.sort(ticks);
        return ticks;
    }

    private static void heardSecondsAreNoMatter() {
        Check.sentence("of each FIRST one that is HEARD at the PLACE of the clap");
        // To the left the second echo is heard, 500, to the right it isn't, 490.
        ClapValley valley = Check.valleyOf("level 0 0 19;level 0 21 40 loss 30;level 40 0 19 loss 50;level 40 21 40 loss 30;hears 500;");
        Check.due("echoes to the left", 3, valley.clap(0, 5, 7, 0, 0, -1));
        Check.due("echoes to the right", 2, valley.clap(0, 35, 7, 0, 0, -1));
        for (int clapY : new int[] {1, 7, 20, 33}) {
            int found = 0;
            for (int place = 0; place < 1681; place++) {
                int x = place % 41;
                found += x != 20 && lowAndHighTicks(x, place / 41).equals(lowAndHighTicks(5, clapY)) ? 1 : 0;
            }
            Check.due("knows from the left", found, valley.knows(0, 5, clapY, 20, 20));
            Check.due("knows from the right", found, valley.knows(0, 35, clapY, 20, 20));
        }
    }

    /** Of walls at x 0 and y 0, and a thief in the corner. */
    private static List<Integer> cornerTicks(int x, int y) {
        List<Integer> ticks = new ArrayList<>();
        if (x != 0) {
            ticks.add(x + y - way(x, y, 0, 0) / 100);
        }
        if (y != 0) {
            ticks.add(x + y - way(x, y, 0, 0) / 100);
        }
        return ticks;
    }

    private static void heardAtTheClap() {
        Check.sentence("of each FIRST one that is HEARD at the PLACE of the clap");
        ClapValley valley = Check.valleyOf("upright 10 0 40 loss 95;hears 51;");
        Check.due("unheard", 1681, valley.knows(0, 4, 5, 10, 5));
        Check.tell(valley, 0, "upright 10 0 40 loss 95;hears 50;");
        Check.due("just heard", 40, valley.knows(0, 4, 5, 10, 5));
        // A wood at the thief's side alone is no matter; one on the clap's way is.
        Check.tell(valley, 0, "barn 20 20;wood 20 21 20 40 99 0 0;");
        Check.due("a wood on his way", 1660, valley.knows(0, 20, 10, 20, 20));
        Check.due("a wood on the clap's way", 21, valley.knows(0, 20, 30, 20, 20));
        // What a wall hides from the clap doesn't come to him either: of y 22 to 40, y less 19 places each.
        Check.tell(valley, 0, "barn 20 20;level 21 20 21 loss 100;");
        Check.due("a wall on the clap's way", 1 + 228, valley.knows(0, 20, 30, 20, 20));
        Check.due("no wall on the clap's way", 1681 - 229, valley.knows(0, 19, 30, 20, 20));
    }

    private static void footsOfWalls() {
        Check.sentence("to the foot");
        // Beside the wall's ends there is no foot, and no echo.
        ClapValley valley = Check.valleyOf("upright 10 5 6;");
        Check.due("beside the ends", 1681 - 2 * 40, valley.knows(0, 4, 4, 10, 5));
        Check.due("beside the ends", 1681 - 2 * 40, valley.knows(0, 4, 7, 10, 5));
        Check.due("at the end", 40, valley.knows(0, 4, 5, 10, 5));
        Check.due("at the other end", 40, valley.knows(0, 4, 6, 10, 6));
    }

    private static void yearAndTone() {
        Check.sentence("in year 0, by TONE 0");
        ClapValley valley = Check.valleyOf("barn 20 20 years 1 99;");
        Check.due("no barn in year 0", 1681, valley.knows(0, 20, 20, 10, 5));
        Check.tell(valley, 0, "barn 20 20 years 0 0;");
        Check.due("a barn in year 0", 1, valley.knows(0, 20, 20, 10, 5));
        Check.tell(valley, 0, "upright 10 0 40;wood 0 0 40 40 99 0 0;");
        Check.due("a wood that takes of tone 0", 1681, valley.knows(0, 4, 5, 10, 5));
        Check.tell(valley, 0, "upright 10 0 40;wood 0 0 40 40 0 99 99;");
        Check.due("a wood that takes of others", 40, valley.knows(0, 4, 5, 10, 5));
    }

    private static void wrongInputs() {
        Check.sentence("no such LAND (as everywhere), no such PLACE (as everywhere)");
        ClapValley valley = new ClapValley();
        int[] last = {5, 40, 40, 40, 40};
        for (int k = 0; k < 5; k++) {
            int[] good = {0, 0, 0, 0, 0};
            good[k] = last[k];
            Check.due("knows of the last allowed", 1681, valley.knows(good[0], good[1], good[2], good[3], good[4]));
            for (int value : new int[] {-1, last[k] + 1, Check.FAR[0], Check.FAR[1], Check.FAR[2], Check.FAR[3]}) {
                int[] w = {0, 0, 0, 0, 0};
                w[k] = value;
                Check.dueNone(valley, "knows, input " + k + " being " + value, () -> valley.knows(w[0], w[1], w[2], w[3], w[4]));
            }
        }
        Check.dueNone(valley, "knows, the clap unnamed", () -> valley.knows(0, -1, -1, 0, 0));
        Check.dueNone(valley, "knows, the thief unnamed", () -> valley.knows(0, 0, 0, -1, -1));
    }
}
