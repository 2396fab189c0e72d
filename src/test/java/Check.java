import java.util.NoSuchElementException;
import java.util.function.IntSupplier;

/** What the tests share: counting wrong answers, and telling a text to the tape. */
final class Check {
    private static int wrong = 0;

    private Check() {
    }

    static void due(String call, long want, long got) {
        if (want != got) {
            wrong++;
            System.out.println(call + " answered " + got + ", due is " + want);
        }
    }

    static void due(String call, boolean want, boolean got) {
        due(call, want ? 1 : 0, got ? 1 : 0);
    }

    /** The call must throw NoSuchElementException. */
    static void dueNone(String call, IntSupplier made) {
        due(call, "throws NoSuchElementException", answer(made));
    }

    /** The call must throw IllegalArgumentException. */
    static void dueIllegal(String call, IntSupplier made) {
        due(call, "throws IllegalArgumentException", answer(made));
    }

    static void due(String call, String want, String got) {
        if (!want.equals(got)) {
            wrong++;
            System.out.println(call + " answered " + got + ", due is " + want);
        }
    }

    /** The answer as a text: the number, or which exception came. */
    static String answer(IntSupplier made) {
        try {
            return Integer.toString(made.getAsInt());
        } catch (NoSuchElementException e) {
            return "throws NoSuchElementException";
        } catch (IllegalArgumentException e) {
            return "throws IllegalArgumentException";
        }
    }

    /** Feeds a text, blanks behind it, and tells it to a land: the answer of land(). */
    static int tell(ClapValley valley, int land, String text) {
        feed(valley, text);
        return valley.land(land, text.length());
    }

    static void feed(ClapValley valley, String text) {
        for (int at = 0; at < text.length(); at += 20) {
            int[] five = new int[5];
            for (int k = 0; k < 20; k++) {
                int sign = at + k < text.length() ? text.charAt(at + k) & 255 : 32;
                five[k / 4] = five[k / 4] << 8 | sign;
            }
            valley.feed(five[0], five[1], five[2], five[3], five[4]);
        }
    }

    /** A new valley with one land told. */
    static ClapValley valleyOf(String text) {
        ClapValley valley = new ClapValley();
        due("land(0, \"" + text + "\")", 0, tell(valley, 0, text));
        return valley;
    }

    /** A new station with its ticks: its number. */
    static int write(ClapValley valley, int x, int y, int year, int tone, int... ticks) {
        int station = valley.station(x, y, year, tone);
        for (int tick : ticks) {
            valley.tick(station, tick);
        }
        return station;
    }

    static void end() {
        if (wrong != 0) {
            System.out.println(wrong + " answers are not as due");
            System.exit(1);
        }
    }
}
