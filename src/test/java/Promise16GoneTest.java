/** Promise 16: gone. */
public final class Promise16GoneTest {
    private static final String ALL = "barn 0 1;barn 0 2;barn 0 3;barn 0 4;barn 0 5;barn 0 6;"
            + "upright 7 0 1;upright 8 0 1;upright 9 0 1;level 17 0 1;level 18 0 1;level 19 0 1;";

    public static void main(String[] args) {
        asBits();
        fewest();
        leastAsBits();
        behindWhatIsGone();
        allAndAllButOne();
        noneDoes();
        nothingNeedBe();
        noSuchStations();
        allStationsOfTheYear();
        oneAfterTheOther();
        fullBook();
        landStays();
        wrongInputs();
        Check.end();
    }

    /** Of one station at 0, 0 in year 3. */
    private static void dueGone(String text, int due, int... ticks) {
        ClapValley valley = Check.valleyOf(text);
        Check.write(valley, 0, 0, 3, 0, ticks);
        Check.due("gone of " + text, due, valley.gone(0, 3));
    }

    private static void asBits() {
        Check.sentence("BARN k is bit k, WALL k bit 8 and k");
        String text = "barn 0 4;barn 0 8;upright 10 0 20;";
        dueGone(text, 0, 20, 16, 8);
        dueGone(text, 1, 16, 20);
        dueGone(text, 2, 20, 8);
        dueGone(text, 256, 8, 16);
        dueGone(text, 257, 16);
        dueGone(text, 258, 8);
        dueGone(text, 3, 20);
        dueGone(text, 259);
        for (int k = 0; k < 6; k++) {
            int[] rest = new int[5];
            for (int i = 0; i < 5; i++) {
                rest[i] = 2 * (i < k ? i + 1 : i + 2);
            }
            dueGone("barn 0 1;barn 0 2;barn 0 3;barn 0 4;barn 0 5;barn 0 6;", 1 << k, rest);
        }
        // Wall k the nearest, all others behind it.
        for (int k = 0; k < 6; k++) {
            StringBuilder walls = new StringBuilder();
            for (int w = 0; w < 6; w++) {
                walls.append("upright ").append(w == k ? 5 : 7).append(" 0 9;");
            }
            dueGone(walls.toString(), 1 << 8 + k, 14);
        }
    }

    private static void fewest() {
        Check.sentence("the fewest WALLS and BARNS that must be taken away");
        // Both barns give what the first wall and its second echo give: one wall is fewer, though its bits are more.
        String text = "barn 3 0;barn 3 4;upright 3 0 40;level 4 0 40;";
        dueGone(text, 256, 6, 8, 10);
        // The wall hides both barns.
        dueGone("barn 0 4;barn 0 4;level 2 0 5;", 256, 8, 8);
        // What need not be taken away stays, the second wall behind the first.
        dueGone("upright 5 0 9;upright 7 0 9;barn 0 1;", 1, 10);
        ClapValley valley = Check.valleyOf(text);
        Check.write(valley, 0, 0, 3, 0, 6, 8, 10);
        Check.write(valley, 3, 1, 3, 0, 6);
        // At 3, 1 the first wall gives nothing, but its going would leave the barns there.
        Check.due("gone by two stations", 3, valley.gone(0, 3));
    }

    private static void leastAsBits() {
        Check.sentence("of as few the least as bits");
        dueGone("barn 0 4;barn 0 4;", 1, 8);
        dueGone("barn 0 4;barn 0 4;barn 0 4;", 3, 8);
        dueGone("upright 4 0 9;barn 0 4;", 1, 8);
        dueGone("barn 0 4;level 4 0 9;", 1, 8);
        dueGone("upright 4 0 9;level 4 0 9;", 256, 8);
        dueGone("upright 4 0 9;upright 4 0 9;", 0, 8);
        dueGone("upright 4 0 9;upright 4 0 9;level 4 0 9;", 1024, 8);
        dueGone("barn 0 4;barn 0 4;barn 0 4;barn 0 4;barn 0 4;barn 0 4;", 31, 8);
    }

    private static void behindWhatIsGone() {
        Check.sentence("that must be taken away, so that all STATIONS of a year that are named FIT");
        // What is gone hides no more, and what was behind is heard.
        dueGone("level 2 0 5;barn 0 4;", 256, 8);
        dueGone("level 2 0 5;barn 0 4;", 0, 4);
        dueGone("level 2 0 5;barn 0 4;", 257);
        dueGone("level 2 0 5;level 3 0 5;barn 0 4;", 768, 8);
        dueGone("upright 20 0 5;upright 10 0 5;", 512, 40);
        dueGone("upright 20 0 5;upright 10 0 5;", 768);
        // Second echoes go with their walls.
        dueGone("upright 4 0 5;level 3 0 5;", 0, 6, 8, 10);
        dueGone("upright 4 0 5;level 3 0 5;", 256, 6);
        dueGone("upright 4 0 5;level 3 0 5;", -1, 6, 8);
    }

    private static void allAndAllButOne() {
        Check.sentence("the fewest WALLS and BARNS that must be taken away");
        dueGone(ALL, 16191);
        dueGone(ALL, 16190, 2);
        dueGone(ALL, 16191 - 32, 12);
        // Walls behind the one that is left may stay.
        dueGone(ALL, 16191 - 7 * 256, 14);
        dueGone(ALL, 16191 - 6 * 256, 16);
        dueGone(ALL, 16191 - 4 * 256, 18);
        dueGone(ALL, 16191 - 8192, 38);
        // Both walls at 9 could be left, the last one makes the least bits.
        dueGone("barn 0 1;barn 0 2;barn 0 3;barn 0 4;barn 0 5;barn 0 6;"
                + "upright 7 0 1;upright 8 0 1;upright 9 0 1;level 7 0 1;level 8 0 1;level 9 0 1;", 7999, 18);
    }

    private static void noneDoes() {
        Check.sentence("NONE: none does.");
        String text = "barn 0 4;barn 0 8;upright 10 0 20;";
        dueGone(text, -1, 7);
        dueGone(text, -1, 8, 8);
        dueGone(text, -1, 8, 16, 20, 20);
        dueGone(text, -1, 0);
        dueGone("", -1, 8);
        dueGone("level 2 0 5;barn 0 4;", -1, 4, 8);
        dueGone(ALL, -1, 13);
    }

    private static void nothingNeedBe() {
        Check.sentence("(0: nothing need be");
        dueGone("", 0);
        dueGone("barn 0 4;", 0, 8);
        dueGone("barn 0 4 years 4 9;", 0);
        dueGone("barn 0 0;", 0);
        dueGone("upright 0 0 9;", 0);
        dueGone("barn 0 4 loss 95;", 0);
    }

    private static void noSuchStations() {
        Check.sentence("or there are no such STATIONS.)");
        ClapValley valley = Check.valleyOf("barn 0 4;");
        Check.due("gone of an empty book", 0, valley.gone(0, 3));
        Check.write(valley, -1, -1, 3, 0, 7);
        Check.due("gone of unnamed ones", 0, valley.gone(0, 3));
        Check.write(valley, 0, 0, 3, 0, 7);
        Check.due("gone of the year", -1, valley.gone(0, 3));
        Check.due("gone of the year before", 0, valley.gone(0, 2));
        Check.due("gone of the year behind", 0, valley.gone(0, 4));
    }

    private static void allStationsOfTheYear() {
        Check.sentence("all STATIONS of a year that are named");
        ClapValley valley = Check.valleyOf("barn 0 4;barn 10 4;barn 20 4 years 0 2;");
        Check.write(valley, 0, 0, 3, 0, 8);
        Check.due("gone of one", 2, valley.gone(0, 3));
        Check.write(valley, 10, 0, 3, 1, 8, 21);
        Check.due("gone of two that do not agree", -1, valley.gone(0, 3));
        valley.clear();
        Check.write(valley, 0, 0, 3, 0, 8, 21);
        Check.write(valley, 10, 0, 3, 1, 8, 21);
        Check.write(valley, 10, 0, 4, 1);
        Check.write(valley, -1, -1, 3, 1);
        Check.due("gone of two that agree", 0, valley.gone(0, 3));
        Check.due("gone of the other year", 3, valley.gone(0, 4));
        // Each by its own tone.
        Check.tell(valley, 1, "barn 0 4;barn 10 4;wood 0 0 40 40 0 99 0;");
        valley.clear();
        Check.write(valley, 0, 0, 3, 0, 8, 21);
        Check.write(valley, 10, 0, 3, 1);
        Check.due("gone by tones", 0, valley.gone(1, 3));
    }

    private static void oneAfterTheOther() {
        Check.sentence("so that all STATIONS of a year that are named FIT");
        // Two stations at wall 2, of which one hears it and one doesn't; each wall is heard at its own y alone.
        String text = "upright 10 0 1;upright 10 5 6;upright 10 10 11;upright 10 15 16;";
        int[][] stations = {{0, 0, 20}, {1, 10, 18}, {0, 10, -1}, {0, 15, 20}, {0, 5, 20}};
        for (int[] order : new int[][] {{0, 1, 2, 3, 4}, {1, 2, 3, 4, 0}, {2, 3, 4, 0, 1}, {3, 4, 0, 1, 2}, {4, 0, 1, 2, 3},
            {4, 3, 2, 1, 0}, {1, 0, 3, 4, 2}, {2, 0, 1, 3, 4}, {0, 3, 2, 4, 1}}) {
            ClapValley valley = Check.valleyOf(text);
            for (int s : order) {
                int station = valley.station(stations[s][0], stations[s][1], 3, 0);
                if (stations[s][2] >= 0) {
                    valley.tick(station, stations[s][2]);
                }
            }
            Check.due("gone of two that do not agree, in another order", -1, valley.gone(0, 3));
            valley.clear();
            for (int s : order) {
                int x = s == 1 ? 2 : stations[s][0];
                int station = valley.station(x, stations[s][1], 3, 0);
                if (stations[s][2] >= 0 && s != 1) {
                    valley.tick(station, stations[s][2]);
                }
            }
            Check.due("gone of all that agree, in another order", 1024, valley.gone(0, 3));
        }
    }

    private static void fullBook() {
        Check.sentence("STATIONS 0, 1 .. (at most 20)");
        for (int other = 0; other < 20; other++) {
            ClapValley valley = Check.valleyOf("barn 0 4;level 20 0 40;barn 40 40;");
            for (int s = 0; s < 20; s++) {
                Check.write(valley, s, 0, 3, 0, 40);
            }
            Check.due("gone of 20 stations", 1, valley.gone(0, 3));
            Check.due("gone of an empty land", -1, valley.gone(1, 3));
            valley.tick(other, 40);
            Check.due("gone of 20 stations, one otherwise", -1, valley.gone(0, 3));
        }
    }

    private static void landStays() {
        Check.sentence("GONE, as bits");
        ClapValley valley = Check.valleyOf("barn 0 4;barn 0 8;upright 10 0 20;");
        Check.write(valley, 0, 0, 3, 0);
        Check.dueKept(valley, "gone(0, 3)", "259", () -> valley.gone(0, 3));
        Check.dueRow(valley, 0, 0, 0, 3, 0, 8, 16, 20);
        Check.dueKept(valley, "gone(0, 3) again", "259", () -> valley.gone(0, 3));
    }

    private static void wrongInputs() {
        Check.sentence("no such LAND (as everywhere), no such year (as everywhere)");
        ClapValley valley = new ClapValley();
        Check.due("gone(5, 99)", 0, valley.gone(5, 99));
        Check.due("gone(0, 0)", 0, valley.gone(0, 0));
        for (int land : new int[] {-1, 6, Check.FAR[0], Check.FAR[1], Check.FAR[2], Check.FAR[3]}) {
            Check.dueNone(valley, "gone(" + land + ", 0)", () -> valley.gone(land, 0));
        }
        for (int year : new int[] {-1, 100, Check.FAR[0], Check.FAR[1], Check.FAR[2], Check.FAR[3]}) {
            Check.dueNone(valley, "gone(0, " + year + ")", () -> valley.gone(0, year));
        }
        // The last years with stations.
        Check.write(valley, 0, 0, 0, 0, 1);
        Check.write(valley, 0, 0, 99, 0, 1);
        Check.due("gone(0, 0)", -1, valley.gone(0, 0));
        Check.due("gone(0, 99)", -1, valley.gone(0, 99));
    }
}
