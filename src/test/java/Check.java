import java.util.ArrayList;
import java.util.List;
import java.util.NoSuchElementException;
import java.util.function.IntSupplier;

/** What the tests share: counting wrong answers, and telling a text to the tape. */
final class Check {
    static final String NO_ELEMENT = "throws NoSuchElementException";
    static final String ILLEGAL = "throws IllegalArgumentException";
    /** Numbers far away on both sides, where a test by a sum or a difference would wrap around. */
    static final int[] FAR = {Integer.MIN_VALUE, Integer.MIN_VALUE + 1, Integer.MAX_VALUE - 1, Integer.MAX_VALUE};

    private static int wrong = 0;
    private static String sentence = "";

    private Check() {
    }

    /** The document's words that the checks behind this call are about. */
    static void sentence(String words) {
        sentence = words;
    }

    static void due(String call, String want, String got) {
        if (!want.equals(got)) {
            wrong++;
            System.out.println((sentence.isEmpty() ? "" : "'" + sentence + "': ") + call + " answered " + got + ", due is " + want);
        }
    }

    static void due(String call, long want, long got) {
        due(call, Long.toString(want), Long.toString(got));
    }

    static void due(String call, boolean want, boolean got) {
        due(call, Boolean.toString(want), Boolean.toString(got));
    }

    /** The call must throw NoSuchElementException and leave all as it was. */
    static void dueNone(ClapValley valley, String call, IntSupplier made) {
        dueKept(valley, call, NO_ELEMENT, made);
    }

    /** The call must throw IllegalArgumentException and leave all as it was. */
    static void dueIllegal(ClapValley valley, String call, IntSupplier made) {
        dueKept(valley, call, ILLEGAL, made);
    }

    /** The call must answer so and leave all as it was. */
    static void dueKept(ClapValley valley, String call, String want, IntSupplier made) {
        String before = state(valley).toString();
        due(call, want, answer(made));
        due("the state behind " + call, before, state(valley).toString());
    }

    /** The call must answer NONE and leave all as it was, but for one more refusal in a STATUS. */
    static void dueRefused(ClapValley valley, int status, String call, IntSupplier made) {
        List<Integer> kept = state(valley);
        kept.set(3 + status, kept.get(3 + status) + 1);
        due(call, "-1", answer(made));
        due("the state behind the refused " + call, kept.toString(), state(valley).toString());
    }

    /** The answer as a text: the number, or which exception came. */
    static String answer(IntSupplier made) {
        try {
            return Integer.toString(made.getAsInt());
        } catch (NoSuchElementException e) {
            return NO_ELEMENT;
        } catch (IllegalArgumentException e) {
            return ILLEGAL;
        }
    }

    /**
     * All that can be told of a state at once: the counts first, then the fault's place, lands, stations.
     * It takes many calls, more than the document allows an object in all; the class has no such bound.
     */
    static List<Integer> state(ClapValley valley) {
        List<Integer> all = new ArrayList<>();
        for (int what = 0; what < 7; what++) {
            all.add(valley.count(what));
        }
        all.add(valley.fault());
        for (int land = 0; land < 6; land++) {
            for (int what = 0; what < 5; what++) {
                all.add(valley.about(land, what));
            }
        }
        for (int station = 0; station < valley.count(1); station++) {
            for (int what = 0; what < 5; what++) {
                all.add(valley.told(station, what));
            }
            for (int i = 0; i < valley.told(station, 4); i++) {
                all.add(valley.told(station, 10 + i));
            }
        }
        return all;
    }

    /** Feeds a text, blanks behind it, and tells it to a land: the answer of land(). */
    static int tell(ClapValley valley, int land, String text) {
        feed(valley, text);
        return valley.land(land, text.length());
    }

    static void feed(ClapValley valley, String text) {
        for (int at = 0; at < text.length(); at += 20) {
            int[] five = new int[5];
            for (int k = 0; k < 20; k++) {
                int sign = at + k < text.length() ? text.charAt(at + k) & 255 : 32;
                five[k / 4] = five[k / 4] << 8 | sign;
            }
            valley.feed(five[0], five[1], five[2], five[3], five[4]);
        }
    }

    /** A new valley with one land told. */
    static ClapValley valleyOf(String text) {
        ClapValley valley = new ClapValley();
        due("land(0, \"" + text + "\")", 0, tell(valley, 0, text));
        return valley;
    }

    /** A new station with its ticks: its number. */
    static int write(ClapValley valley, int x, int y, int year, int tone, int... ticks) {
        int station = valley.station(x, y, year, tone);
        for (int tick : ticks) {
            valley.tick(station, tick);
        }
        return station;
    }

    static void dueCounts(ClapValley valley, String when, int... due) {
        for (int what = 0; what < 7; what++) {
            due("count(" + what + ") " + when, due[what], valley.count(what));
        }
    }

    static void dueAbout(ClapValley valley, int land, int... all) {
        for (int what = 0; what < 5; what++) {
            due("about(" + land + ", " + what + ")", all[what], valley.about(land, what));
        }
    }

    /** The whole row of a clap, and that there is nothing in front of it and behind it. */
    static void dueRow(ClapValley valley, int land, int x, int y, int year, int tone, int... row) {
        String call = "clap(" + land + ", " + x + ", " + y + ", " + year + ", " + tone + ", ";
        due(call + "-1)", row.length, valley.clap(land, x, y, year, tone, -1));
        for (int i = 0; i < row.length; i++) {
            int k = i;
            due(call + i + ")", Integer.toString(row[i]), answer(() -> valley.clap(land, x, y, year, tone, k)));
        }
        due(call + row.length + ")", NO_ELEMENT, answer(() -> valley.clap(land, x, y, year, tone, row.length)));
        due(call + "-2)", NO_ELEMENT, answer(() -> valley.clap(land, x, y, year, tone, -2)));
    }

    static void end() {
        if (wrong != 0) {
            System.out.println(wrong + " answers are not as due");
            System.exit(1);
        }
    }
}
