/** Promise 2: feed. */
public final class Promise02FeedTest {
    private static final int BLANKS = 0x20202020;

    public static void main(String[] args) {
        highestFirst();
        behindTheTape();
        howMany();
        asMuchAsFits();
        noneCome();
        afterLand();
        Check.end();
    }

    private static void feedBlanks(ClapValley valley, int times) {
        for (int k = 0; k < times; k++) {
            valley.feed(BLANKS, BLANKS, BLANKS, BLANKS, BLANKS);
        }
    }

    /** Feeds 19 blanks and one sign, at one of the twenty places. */
    private static int feedSign(ClapValley valley, int place, int sign) {
        int[] five = {BLANKS, BLANKS, BLANKS, BLANKS, BLANKS};
        int shift = 24 - 8 * (place % 4);
        five[place / 4] = BLANKS & ~(255 << shift) | sign << shift;
        return valley.feed(five[0], five[1], five[2], five[3], five[4]);
    }

    private static void highestFirst() {
        Check.sentence("Twenty bytes come behind the tape, of each number the highest first");
        for (int place = 0; place < 20; place++) {
            for (int sign : new int[] {0, 1, 'x', 127, 128, 255}) {
                ClapValley valley = new ClapValley();
                Check.due("feed", 20, feedSign(valley, place, sign));
                Check.due("land up to a bad sign", 0, valley.land(0, place));
                feedSign(valley, place, sign);
                Check.due("land with a bad sign", 1, valley.land(0, place + 1));
                Check.due("fault()", place, valley.fault());
            }
        }
        ClapValley valley = new ClapValley();
        valley.feed(0x61697220, 0x37303b68, 0x65617273, 0x20333b20, 0x20202020);
        Check.due("land(2, 20)", 0, valley.land(2, 20));
        Check.dueAbout(valley, 2, 0, 0, 0, 3, 70);
    }

    private static void behindTheTape() {
        Check.sentence("Twenty bytes come behind the tape");
        for (int feeds = 0; feeds < 35; feeds++) {
            ClapValley valley = new ClapValley();
            feedBlanks(valley, feeds);
            feedSign(valley, 7, 'x');
            feedBlanks(valley, 34 - feeds);
            Check.due("land", 1, valley.land(0, 700));
            Check.due("fault()", 20 * feeds + 7, valley.fault());
        }
    }

    private static void howMany() {
        Check.sentence("how many it has");
        ClapValley valley = new ClapValley();
        for (int k = 1; k <= 35; k++) {
            Check.due("feed " + k, 20 * k, valley.feed(0, -1, 1, Integer.MIN_VALUE, Integer.MAX_VALUE));
            Check.due("count(0)", 20 * k, valley.count(0));
        }
    }

    private static void asMuchAsFits() {
        Check.sentence("if it would have more than 700");
        // The text's last byte is the tape's 700th.
        String last = "hears 1000;";
        String text = "air 150;" + " ".repeat(700 - 8 - last.length()) + last;
        ClapValley valley = new ClapValley();
        Check.feed(valley, text);
        Check.due("count(0)", 700, valley.count(0));
        Check.due("land(5, 700)", 0, valley.land(5, 700));
        Check.dueAbout(valley, 5, 0, 0, 0, 1000, 150);
    }

    private static void noneCome() {
        Check.sentence("NONE, and none come, if it would have more than 700.");
        ClapValley valley = new ClapValley();
        feedBlanks(valley, 34);
        Check.due("the 35th feed", 700, feedSign(valley, 19, 'x'));
        Check.dueKept(valley, "the 36th feed", "-1", () -> feedSign(valley, 0, 'y'));
        Check.dueKept(valley, "the 37th feed", "-1", () -> valley.feed(0, 0, 0, 0, 0));
        Check.due("land(0, 700)", 1, valley.land(0, 700));
        Check.due("fault()", 699, valley.fault());
    }

    private static void afterLand() {
        Check.sentence("how many it has");
        ClapValley valley = new ClapValley();
        feedBlanks(valley, 36);
        valley.land(0, 3);
        Check.due("feed behind land", 20, feedSign(valley, 0, 'x'));
        Check.due("land(0, 20)", 1, valley.land(0, 20));
        Check.due("fault()", 0, valley.fault());
        Check.due("feed behind a faulty land", 20, feedSign(valley, 0, ' '));
        Check.due("land(0, 20)", 0, valley.land(0, 20));
    }
}
