import java.util.Random;
import java.util.function.IntSupplier;

/** Runs of calls, the same for each run of the test, answered by the class and by SlowValley. */
public final class SlowValleyTest {
    private final Random random;
    private final int run;
    private final ClapValley valley = new ClapValley();
    private final SlowValley slow = new SlowValley();
    private int stations = 0;

    private SlowValleyTest(int run) {
        this.run = run;
        this.random = new Random(run);
    }

    public static void main(String[] args) {
        int first = args.length > 0 ? Integer.parseInt(args[0]) : 0;
        int runs = args.length > 1 ? Integer.parseInt(args[1]) : 60;
        for (int run = first; run < first + runs; run++) {
            SlowValleyTest test = new SlowValleyTest(run);
            test.texts();
            test.calls();
            test.losses();
        }
        Check.end();
    }

    private void same(String call, IntSupplier ours, IntSupplier theirs) {
        Check.due("run " + run + ": " + call, Check.answer(theirs), Check.answer(ours));
    }

    private int below(int bound) {
        return random.nextInt(bound);
    }

    /** Mostly a number from 0 to most, now and then one just beside. */
    private int near(int most) {
        return below(25) == 0 ? (random.nextBoolean() ? -1 - below(2) : most + 1 + below(2)) : below(most + 1);
    }

    private int coordinate() {
        return below(3) == 0 ? below(41) : 8 * below(6);
    }

    // ---- texts

    private void texts() {
        for (int k = 0; k < 60; k++) {
            tell(below(6), below(2) == 0 ? broken(text(k % 5 == 0 ? 14 : 4)) : text(k % 5 == 0 ? 14 : 5));
        }
        for (int land = 0; land < 6; land++) {
            tell(land, text(6));
        }
        // Lands that are like one another but for a little, so that next() has something to tell.
        String common = text(5);
        for (int land = 0; land < 6 && run % 2 == 0; land++) {
            tell(land, common + line());
        }
    }

    private void tell(int land, String text) {
        String cut = text.length() > 700 ? text.substring(0, 700) : text;
        for (int at = 0; at < cut.length(); at += 20) {
            int[] n = new int[5];
            for (int k = 0; k < 20; k++) {
                n[k / 4] = n[k / 4] << 8 | (at + k < cut.length() ? cut.charAt(at + k) : below(256));
            }
            same("feed", () -> valley.feed(n[0], n[1], n[2], n[3], n[4]), () -> slow.feed(n));
        }
        String call = "land(" + land + ", \"" + cut + "\")";
        same(call, () -> valley.land(land, cut.length()), () -> slow.land(land, cut.length()));
        same("fault() of " + call, valley::fault, slow::fault);
        for (int what = 0; what < 5; what++) {
            int w = what;
            same("about(" + land + ", " + w + ")", () -> valley.about(land, w), () -> slow.about(land, w));
        }
    }

    private String text(int lines) {
        StringBuilder made = new StringBuilder();
        int told = below(lines + 1);
        for (int k = 0; k < told; k++) {
            made.append(line()).append(below(3) == 0 ? "\n" : "");
            if (below(30) == 0) {
                made.append(below(2) == 0 ? "air 70;" : "hears 50;");
            }
        }
        if (below(2) == 0) {
            made.append("hears ").append(below(3) == 0 ? 0 : below(1001)).append(';');
        }
        if (below(2) == 0) {
            made.append("air ").append(50 + below(101)).append(';');
        }
        return made.toString();
    }

    private String line() {
        int a = coordinate();
        int from = below(40);
        int to = from + 1 + below(40 - from);
        String loss = below(3) == 0 ? " loss " + below(101) : "";
        switch (below(7)) {
            case 0:
            case 1:
                return "upright " + a + " " + from + " " + to + loss + ";";
            case 2:
            case 3:
                return "level" + a + " " + from + " " + to + loss + ";";
            case 4:
            case 5:
                int year = below(10);
                return "barn " + a + " " + coordinate() + loss
                        + (below(3) == 0 ? " years " + year + " " + (year + below(10)) : "") + ";";
            default:
                int x = below(41);
                int y = below(41);
                return "wood " + x + " " + y + " " + (x + below(41 - x)) + " " + (y + below(41 - y)) + " "
                        + below(40) + " " + below(101) + " " + below(10) + ";";
        }
    }

    /** A text with a few signs changed, taken away or put in. */
    private String broken(String text) {
        StringBuilder made = new StringBuilder(text);
        int times = 1 + below(3);
        for (int k = 0; k < times && made.length() > 0; k++) {
            int at = below(made.length());
            String piece = new String[] {"", ";", " ", "\n", "0", "9", "00000", "a", "\t", "loss 3", "years 5 4", "air 70;",
                "hears 5;", "X", "\u00e9", "\u0000", " 41 "}[below(17)];
            made.replace(at, Math.min(made.length(), at + below(4)), piece);
        }
        return made.toString();
    }

    // ---- what is gone

    /** Stations are written in a land that lost some of its lines, and asked for in the whole one. */
    private void losses() {
        String whole = "hears 20;";
        String left = whole;
        for (int k = 0; k < 6; k++) {
            String line = line();
            whole = whole + line;
            left = below(3) == 0 ? left : left + line;
        }
        tell(0, whole);
        tell(1, left);
        valley.clear();
        slow.clear();
        stations = 0;
        for (int k = 0; k < 6; k++) {
            int year = 4 + below(2);
            writeStation(1, coordinate(), coordinate(), year, 0);
            same("gone(0," + year + ")", () -> valley.gone(0, year), () -> slow.gone(0, year));
        }
    }

    // ---- calls

    private void calls() {
        for (int k = 0; k < 150; k++) {
            call(below(20));
        }
        for (int what = -1; what < 8; what++) {
            int w = what;
            same("count(" + w + ")", () -> valley.count(w), () -> slow.count(w));
        }
    }

    private void call(int which) {
        int land = near(5);
        int x = near(40);
        int y = near(40);
        int year = below(3) == 0 ? near(99) : below(4);
        int tone = below(12) == 0 ? near(2) : 0;
        int station = stations == 0 ? near(1) : near(stations - 1);
        int i = below(3) == 0 ? -1 : below(4);
        switch (which) {
            case 0:
            case 1:
                int row = clapAll(land, x, y, year, tone);
                if (row >= 0) {
                    writeStation(land, x, y, year, tone);
                }
                break;
            case 2:
                int e = below(85) - 2;
                same("strength(" + land + "," + x + "," + y + "," + year + "," + tone + "," + e + ")",
                        () -> valley.strength(land, x, y, year, tone, e), () -> slow.strength(land, x, y, year, tone, e));
                break;
            case 3:
                int ticks = below(3) == 0 ? near(9999) : below(100);
                same("tick(" + station + "," + ticks + ")", () -> valley.tick(station, ticks), () -> slow.tick(station, ticks));
                break;
            case 4:
                int what = below(24) - 1;
                same("told(" + station + "," + what + ")", () -> valley.told(station, what), () -> slow.told(station, what));
                break;
            case 5:
                same("fits(" + land + "," + station + ")", () -> valley.fits(land, station) ? 1 : 0, () -> slow.fits(land, station));
                break;
            case 6:
                same("where(" + land + "," + station + "," + i + ")",
                        () -> valley.where(land, station, i), () -> slow.where(land, station, i));
                break;
            case 7:
                int airs = near(2);
                same("airs(" + land + "," + station + "," + airs + ")",
                        () -> valley.airs(land, station, airs), () -> slow.airs(land, station, airs));
                break;
            case 8:
                int asked = near(1);
                same("whose(" + land + "," + station + "," + i + "," + asked + ")",
                        () -> valley.whose(land, station, i, asked), () -> slow.whose(land, station, i, asked));
                break;
            case 9:
                same("gone(" + land + "," + year + ")", () -> valley.gone(land, year), () -> slow.gone(land, year));
                break;
            case 10:
                if (below(6) == 0) {
                    planned(year, i);
                }
                break;
            case 11:
            case 12:
                same("spot(" + x + "," + y + ")", () -> valley.spot(x, y), () -> slow.spot(x, y));
                break;
            case 13:
            case 14:
                int bits = near(63);
                int first = near(1);
                same("next(" + bits + "," + year + "," + tone + "," + first + ")",
                        () -> valley.next(bits, year, tone, first), () -> slow.next(bits, year, tone, first));
                break;
            case 15:
                int hisX = near(40);
                int hisY = near(40);
                same("knows(" + land + "," + x + "," + y + "," + hisX + "," + hisY + ")",
                        () -> valley.knows(land, x, y, hisX, hisY), () -> slow.knows(land, x, y, hisX, hisY));
                break;
            case 16:
            case 17:
                same("word(" + land + "," + x + "," + y + "," + tone + ")",
                        () -> valley.word(land, x, y, tone), () -> slow.word(land, x, y, tone));
                break;
            default:
                bookCall();
        }
    }

    private void bookCall() {
        switch (below(6)) {
            case 0:
                same("image()", () -> {
                    valley.image();
                    return 0;
                }, slow::image);
                break;
            case 1:
                same("restore()", () -> valley.restore() ? 1 : 0, slow::restore);
                stations = valley.count(1);
                break;
            case 2:
                if (below(3) == 0) {
                    same("clear()", () -> {
                        valley.clear();
                        return 0;
                    }, slow::clear);
                    stations = 0;
                }
                break;
            default:
                same("count(0)", () -> valley.count(0), () -> slow.count(0));
        }
    }

    private int clapAll(int land, int x, int y, int year, int tone) {
        String answer = Check.answer(() -> valley.clap(land, x, y, year, tone, -1));
        int heard = answer.startsWith("throws") ? -1 : Integer.parseInt(answer);
        for (int i = -2; i <= heard; i++) {
            int k = i;
            same("clap(" + land + "," + x + "," + y + "," + year + "," + tone + "," + k + ")",
                    () -> valley.clap(land, x, y, year, tone, k), () -> slow.clap(land, x, y, year, tone, k));
        }
        return heard;
    }

    /** A station with the ticks of a clap, some of them wrong or left out now and then, from the last to the first. */
    private void writeStation(int land, int x, int y, int year, int tone) {
        boolean unnamed = below(5) == 0;
        int sx = unnamed ? -1 : x;
        int sy = unnamed ? -1 : y;
        int number = valley.station(sx, sy, year, tone);
        Check.due("run " + run + ": station", slow.station(sx, sy, year, tone), number);
        if (number < 0) {
            return;
        }
        stations = number + 1;
        int left = below(3);
        for (int i = valley.clap(land, x, y, year, tone, -1) - 1; i >= 0; i--) {
            if (left != 2 || below(4) != 0) {
                int tick = valley.clap(land, x, y, year, tone, i) + (left == 1 && below(9) == 0 ? 1 : 0);
                same("tick", () -> valley.tick(number, tick), () -> slow.tick(number, tick));
            }
        }
    }

    /** Plans need few ticks: a new year with stations that see one, two or three lines. */
    private void planned(int aYear, int i) {
        int year = below(5) == 0 ? aYear : 50 + below(40);
        int air = 49 + below(103);
        int lines = below(4);
        int[] line = {below(82), below(82), below(82)};
        for (int s = 0; s <= below(3); s++) {
            int x = coordinate();
            int y = coordinate();
            int number = valley.station(x, y, year, 0);
            Check.due("run " + run + ": station", slow.station(x, y, year, 0), number);
            for (int k = 0; k < lines && number >= 0; k++) {
                int away = Math.abs(line[k] < 41 ? x - line[k] : y - line[k] + 41);
                if (away != 0) {
                    same("tick", () -> valley.tick(number, 200 * away / air), () -> slow.tick(number, 200 * away / air));
                }
            }
            stations = Math.max(stations, number + 1);
        }
        same("plans(" + year + "," + air + ",-1)", () -> valley.plans(year, air, -1), () -> slow.plans(year, air, -1));
        same("plans(" + year + "," + air + "," + i + ")", () -> valley.plans(year, air, i), () -> slow.plans(year, air, i));
    }
}
