import java.util.NoSuchElementException;

/** A valley told by claps: lands of walls, barns and woods, and a book of the echoes heard there. */
public final class ClapValley {
    public static final int NONE = -1;

    private static final int SIDE = 41;
    private static final int PLACES = SIDE * SIDE;
    private static final int YEARS = 100;
    private static final int TONES = 3;
    private static final int LANDS = 6;
    private static final int LEAST_AIR = 50;
    private static final int MOST_AIR = 150;
    private static final int MOST_TICK = 9999;
    private static final int TAPE_BYTES = 700;
    private static final int FEED_BYTES = 20;

    private static final int MOST_WALLS = 6;
    private static final int MOST_BARNS = 6;
    private static final int MOST_WOODS = 4;
    private static final int MOST_STATIONS = 20;
    private static final int MOST_WRITTEN = 12;
    private static final int MOST_SPOTS = 8;

    private static final int FULL_STRENGTH = 1000;
    private static final int BARN_ECHO = 8;
    private static final int SECOND_ECHO = 16;
    private static final int ECHO_NUMBERS = 80;
    /** A PLACE has at most 4 WALLS, 6 BARNS and 6 pairs of those WALLS. */
    private static final int MOST_ECHOES = 16;
    private static final int WALL_BIT = 8;

    private static final int REFUSED_TEXTS = 0;
    private static final int REFUSED_STATIONS = 1;
    private static final int REFUSED_TICKS = 2;
    private static final int REFUSED_SPOTS = 3;
    private static final int REFUSED_KINDS = 4;

    private final Tape tape;
    private final Land[] lands;
    private final Book book;
    private final Book kept;
    private boolean hasImage;
    private final Scene scene;
    private final Scene[] stationScenes;
    private final Echoes echoes;
    private final Planner planner;
    private final Chooser chooser;
    private final int[] heardByThief;
    private final int[] maybeHeard;

    public ClapValley() {
        tape = new Tape();
        lands = new Land[LANDS];
        for (int k = 0; k < LANDS; k++) {
            lands[k] = new Land();
        }
        book = new Book();
        kept = new Book();
        hasImage = false;
        scene = new Scene();
        stationScenes = new Scene[MOST_STATIONS];
        for (int s = 0; s < MOST_STATIONS; s++) {
            stationScenes[s] = new Scene();
        }
        echoes = new Echoes();
        planner = new Planner();
        chooser = new Chooser();
        heardByThief = new int[MOST_ECHOES];
        maybeHeard = new int[MOST_ECHOES];
    }

    // ---- the tape and the LANDS

    public int feed(int a, int b, int c, int d, int e) {
        if (tape.length + FEED_BYTES > TAPE_BYTES) {
            return NONE;
        }
        tape.append(a);
        tape.append(b);
        tape.append(c);
        tape.append(d);
        tape.append(e);
        return tape.length;
    }

    public int land(int land, int n) throws NoSuchElementException, IllegalArgumentException {
        Land earlier = needLand(land);
        if (n < 0 || n > tape.length) {
            throw new IllegalArgumentException("the tape has not so many bytes");
        }
        int found = tape.readLand(n);
        if (found != 0) {
            book.refused[REFUSED_TEXTS]++;
            return found;
        }
        lands[land] = tape.exchange(earlier);
        return 0;
    }

    public int fault() {
        return tape.place;
    }

    public int count(int what) throws NoSuchElementException {
        switch (what) {
            case 0:
                return tape.length;
            case 1:
                return book.stationCount;
            case 2:
                return book.spotCount;
            case 3:
                return book.refused[REFUSED_TEXTS];
            case 4:
                return book.refused[REFUSED_STATIONS];
            case 5:
                return book.refused[REFUSED_TICKS];
            case 6:
                return book.refused[REFUSED_SPOTS];
            default:
                throw new NoSuchElementException("no such count");
        }
    }

    public int about(int land, int what) throws NoSuchElementException {
        Land asked = needLand(land);
        switch (what) {
            case 0:
                return asked.wallCount;
            case 1:
                return asked.barnCount;
            case 2:
                return asked.woodCount;
            case 3:
                return asked.hears;
            case 4:
                return asked.air;
            default:
                throw new NoSuchElementException("nothing such is told of a land");
        }
    }

    // ---- CLAPS

    public int clap(int land, int x, int y, int year, int tone, int i) throws NoSuchElementException {
        Land asked = needClap(land, x, y, year, tone);
        scene.look(asked, x, y, year, tone);
        echoes.gather(scene, asked, 0);
        int heard = echoes.orderHeard(asked.hears);
        if (i == NONE) {
            return heard;
        }
        if (i < 0 || i >= heard) {
            throw new NoSuchElementException("no such echo is heard");
        }
        return byAir(echoes.roots[i], asked.air);
    }

    public int strength(int land, int x, int y, int year, int tone, int echo) throws NoSuchElementException {
        Land asked = needClap(land, x, y, year, tone);
        if (echo < 0 || echo >= ECHO_NUMBERS) {
            throw new NoSuchElementException("no echo has such a number");
        }
        scene.look(asked, x, y, year, tone);
        echoes.gather(scene, asked, 0);
        return echoes.strengthOf(echo);
    }

    // ---- THE BOOK

    public int station(int x, int y, int year, int tone) {
        boolean placed = isPlace(x, y) || (x == NONE && y == NONE);
        if (!placed || !isYear(year) || !isTone(tone) || book.stationCount >= MOST_STATIONS) {
            book.refused[REFUSED_STATIONS]++;
            return NONE;
        }
        int number = book.stationCount;
        book.stations[number].begin(x, y, year, tone);
        book.stationCount++;
        return number;
    }

    public int tick(int station, int ticks) throws NoSuchElementException {
        Station asked = needStation(station);
        if (ticks < 0 || ticks > MOST_TICK || asked.ticks >= MOST_WRITTEN) {
            book.refused[REFUSED_TICKS]++;
            return NONE;
        }
        asked.write(ticks);
        return asked.ticks;
    }

    public int told(int station, int what) throws NoSuchElementException {
        Station asked = needStation(station);
        switch (what) {
            case 0:
                return asked.x;
            case 1:
                return asked.y;
            case 2:
                return asked.year;
            case 3:
                return asked.tone;
            case 4:
                return asked.ticks;
            default:
                return writtenTick(asked, what < 10 ? NONE : what - 10);
        }
    }

    public boolean fits(int land, int station) throws NoSuchElementException {
        Land asked = needLand(land);
        Station written = needStation(station);
        return written.isNamed() && fitsAt(asked, written, written.x, written.y);
    }

    public int where(int land, int station, int i) throws NoSuchElementException {
        Land asked = needLand(land);
        Station written = needStation(station);
        int found = 0;
        for (int place = 0; place < PLACES; place++) {
            if (fitsAt(asked, written, place % SIDE, place / SIDE)) {
                if (found == i) {
                    return place;
                }
                found++;
            }
        }
        if (i != NONE) {
            throw new NoSuchElementException("the station fits at fewer places");
        }
        return found;
    }

    public int airs(int land, int station, int what) throws NoSuchElementException {
        Land asked = needLand(land);
        Station written = needNamed(station);
        if (what < 0 || what > 2) {
            throw new NoSuchElementException("nothing such is told of airs");
        }
        scene.look(asked, written.x, written.y, written.year, written.tone);
        echoes.gather(scene, asked, 0);
        int heard = echoes.orderHeard(asked.hears);
        int found = 0;
        int least = NONE;
        int greatest = NONE;
        for (int air = LEAST_AIR; air <= MOST_AIR && heard == written.ticks; air++) {
            if (echoes.rowIs(written.ordered, air)) {
                found++;
                least = least == NONE ? air : least;
                greatest = air;
            }
        }
        return what == 0 ? found : what == 1 ? least : greatest;
    }

    public int whose(int land, int station, int i, int what) throws NoSuchElementException {
        Land asked = needLand(land);
        Station written = needNamed(station);
        int tick = writtenTick(written, i);
        if (what != 0 && what != 1) {
            throw new NoSuchElementException("nothing such is told of a tick");
        }
        scene.look(asked, written.x, written.y, written.year, written.tone);
        echoes.gather(scene, asked, 0);
        return what == 0 ? echoes.howManyAt(tick, asked) : echoes.leastAt(tick, asked);
    }

    private boolean fitsAt(Land asked, Station written, int x, int y) {
        scene.look(asked, x, y, written.year, written.tone);
        echoes.gather(scene, asked, 0);
        return echoes.fit(written, asked);
    }

    private static int writtenTick(Station asked, int i) {
        if (i < 0 || i >= asked.ticks) {
            throw new NoSuchElementException("no such tick is written");
        }
        return asked.written[i];
    }

    // ---- GONE

    public int gone(int land, int year) throws NoSuchElementException {
        Land asked = needLand(land);
        needYear(year);
        int stations = book.pickNamed(year);
        for (int s = 0; s < stations; s++) {
            Station picked = book.picked[s];
            stationScenes[s].look(asked, picked.x, picked.y, year, picked.tone);
        }
        int things = asked.barnCount + asked.wallCount;
        int doubtful = 0;
        for (int size = 0; size <= things; size++) {
            for (int set = 0; set < 1 << things; set++) {
                if (Integer.bitCount(set) == size) {
                    int bits = thingBits(set, asked.barnCount);
                    doubtful = firstMisfit(asked, bits, stations, doubtful);
                    if (doubtful == NONE) {
                        return bits;
                    }
                }
            }
        }
        return NONE;
    }

    private static int thingBits(int set, int barns) {
        return (set & ((1 << barns) - 1)) | ((set >>> barns) << WALL_BIT);
    }

    /** It begins with the STATION that refused the last set: that one most likely refuses again. */
    private int firstMisfit(Land asked, int gone, int stations, int doubtful) {
        for (int k = 0; k < stations; k++) {
            int s = doubtful + k < stations ? doubtful + k : doubtful + k - stations;
            echoes.gather(stationScenes[s], asked, gone);
            if (!echoes.fit(book.picked[s], asked)) {
                return s;
            }
        }
        return NONE;
    }

    // ---- PLANS and NEXT

    public int plans(int year, int air, int i) throws NoSuchElementException, IllegalArgumentException {
        needYear(year);
        if (air < LEAST_AIR || air > MOST_AIR) {
            throw new IllegalArgumentException("no such air");
        }
        int stations = book.pickNamed(year);
        if (stations == 0) {
            throw new IllegalArgumentException("no named station of that year");
        }
        planner.prepare(book, air);
        int answer = planner.search(book, i);
        if (i != NONE && answer == NONE) {
            throw new NoSuchElementException("there are fewer plans");
        }
        return answer;
    }

    public int spot(int x, int y) {
        if (!isPlace(x, y) || book.spotCount >= MOST_SPOTS) {
            book.refused[REFUSED_SPOTS]++;
            return NONE;
        }
        int number = book.spotCount;
        book.spotX[number] = x;
        book.spotY[number] = y;
        book.spotCount++;
        return number;
    }

    public int next(int lands, int year, int tone, int what) throws NoSuchElementException, IllegalArgumentException {
        needYear(year);
        needTone(tone);
        if (what != 0 && what != 1) {
            throw new NoSuchElementException("nothing such is told of the next clap");
        }
        if (lands < 0 || lands >= 1 << LANDS) {
            throw new IllegalArgumentException("bits of no land");
        }
        for (int s = 0; s < book.spotCount; s++) {
            for (int k = 0; k < LANDS; k++) {
                Land maybe = this.lands[k];
                scene.look(maybe, book.spotX[s], book.spotY[s], year, tone);
                echoes.gather(scene, maybe, 0);
                chooser.keepRow(k, echoes, maybe);
            }
            chooser.compareRows(s);
        }
        chooser.choose(book.spotCount, lands);
        return what == 0 ? chooser.claps[lands] : chooser.firstSpot[lands];
    }

    // ---- the THIEF and a WORD

    public int knows(int land, int x, int y, int hisX, int hisY) throws NoSuchElementException {
        Land asked = needLand(land);
        needPlace(x, y);
        needPlace(hisX, hisY);
        lookAsThief(asked, x, y);
        int heard = echoes.countFirstHeard(asked.hears);
        echoes.orderForThief(scene, asked, hisX, hisY, heardByThief);
        int found = 0;
        for (int place = 0; place < PLACES; place++) {
            lookAsThief(asked, place % SIDE, place / SIDE);
            if (echoes.countFirstHeard(asked.hears) == heard) {
                echoes.orderForThief(scene, asked, hisX, hisY, maybeHeard);
                found += sameStart(heardByThief, maybeHeard, heard) ? 1 : 0;
            }
        }
        return found;
    }

    private void lookAsThief(Land asked, int x, int y) {
        scene.look(asked, x, y, 0, 0);
        echoes.gather(scene, asked, 0);
    }

    public int word(int land, int x, int y, int tone) throws NoSuchElementException {
        Land asked = needLand(land);
        needPlace(x, y);
        needTone(tone);
        int found = 0;
        for (int place = 0; place < PLACES; place++) {
            int otherX = place % SIDE;
            int otherY = place / SIDE;
            boolean own = otherX == x && otherY == y;
            if (!own && asked.hidersBetween(x, y, otherX, otherY) == 0
                    && asked.strengthAlong(0, x, y, otherX, otherY, tone, 1) >= asked.hears) {
                found++;
            }
        }
        return found;
    }

    // ---- AN IMAGE

    public void clear() {
        book.empty();
    }

    public void image() {
        kept.copyFrom(book);
        hasImage = true;
    }

    public boolean restore() {
        if (hasImage) {
            book.copyFrom(kept);
        }
        return hasImage;
    }

    // ---- what a call needs

    private static boolean isPlace(int x, int y) {
        return x >= 0 && x < SIDE && y >= 0 && y < SIDE;
    }

    private static boolean isYear(int year) {
        return year >= 0 && year < YEARS;
    }

    private static boolean isTone(int tone) {
        return tone >= 0 && tone < TONES;
    }

    private Land needLand(int land) {
        if (land < 0 || land >= LANDS) {
            throw new NoSuchElementException("no such land");
        }
        return lands[land];
    }

    private Land needClap(int land, int x, int y, int year, int tone) {
        Land asked = needLand(land);
        needPlace(x, y);
        needYear(year);
        needTone(tone);
        return asked;
    }

    private Station needStation(int station) {
        if (station < 0 || station >= book.stationCount) {
            throw new NoSuchElementException("no such station");
        }
        return book.stations[station];
    }

    private Station needNamed(int station) {
        Station asked = needStation(station);
        if (!asked.isNamed()) {
            throw new NoSuchElementException("the station is unnamed");
        }
        return asked;
    }

    private static void needPlace(int x, int y) {
        if (!isPlace(x, y)) {
            throw new NoSuchElementException("no such place");
        }
    }

    private static void needYear(int year) {
        if (!isYear(year)) {
            throw new NoSuchElementException("no such year");
        }
    }

    private static void needTone(int tone) {
        if (!isTone(tone)) {
            throw new NoSuchElementException("no such tone");
        }
    }

    // ---- numbers

    /** The root, cut down, of 10,000 by the square of a way; no way's square is beyond 12,800. */
    private static int wayRoot(int square) {
        int scaled = 10000 * square;
        int root = 0;
        for (int bit = 1 << 13; bit > 0; bit >>= 1) {
            int tried = root | bit;
            if (tried * tried <= scaled) {
                root = tried;
            }
        }
        return root;
    }

    private static int byAir(int root, int air) {
        return air > 0 ? root / air : 0;
    }

    private static int distanceSquare(int ax, int ay, int bx, int by) {
        return (bx - ax) * (bx - ax) + (by - ay) * (by - ay);
    }

    /** Puts a number in its order among the first ones of a row that has room for it. */
    private static void insert(int[] row, int length, int number) {
        int at = length;
        while (at > 0 && row[at - 1] > number) {
            row[at] = row[at - 1];
            at--;
        }
        row[at] = number;
    }

    private static boolean sameStart(int[] one, int[] other, int length) {
        for (int i = 0; i < length; i++) {
            if (one[i] != other[i]) {
                return false;
            }
        }
        return true;
    }

    // ---- a LAND and what is in it

    private static final class Wall {
        private boolean upright;
        private int at;
        private int from;
        private int to;
        private int loss;

        private boolean holds(int along) {
            return along >= from && along <= to;
        }

        private int footX(int x) {
            return upright ? at : x;
        }

        private int footY(int y) {
            return upright ? y : at;
        }

        /** Whether it stands between two PLACES; told in whole numbers, scaled by the way across. */
        private boolean standsBetween(int ax, int ay, int bx, int by) {
            int start = upright ? ax : ay;
            int end = upright ? bx : by;
            if (at <= Math.min(start, end) || at >= Math.max(start, end)) {
                return false;
            }
            int startAlong = upright ? ay : ax;
            int endAlong = upright ? by : bx;
            int across = Math.abs(end - start);
            int done = Math.abs(at - start);
            int met = startAlong * across + (endAlong - startAlong) * done;
            return met >= from * across && met <= to * across;
        }
    }

    private static final class Barn {
        private int x;
        private int y;
        private int loss;
        private int from;
        private int to;
    }

    private static final class Wood {
        private int lowX;
        private int lowY;
        private int highX;
        private int highY;
        private final int[] takes = new int[TONES];

        private boolean meets(int ax, int ay, int bx, int by) {
            if (Math.max(ax, bx) < lowX || Math.min(ax, bx) > highX
                    || Math.max(ay, by) < lowY || Math.min(ay, by) > highY) {
                return false;
            }
            int wayX = bx - ax;
            int wayY = by - ay;
            // Of a corner, wayX by its y less wayY by its x tells on which side of the line it is:
            // the line misses the wood only if all corners are on one side.
            int one = wayX * (lowY - ay);
            int two = wayX * (highY - ay);
            int three = wayY * (lowX - ax);
            int four = wayY * (highX - ax);
            return Math.min(one, two) <= Math.max(three, four) && Math.max(one, two) >= Math.min(three, four);
        }
    }

    private static final class Land {
        private final Wall[] walls;
        private final Barn[] barns;
        private final Wood[] woods;
        private int wallCount;
        private int barnCount;
        private int woodCount;
        private int hears;
        private int air;

        private Land() {
            walls = new Wall[MOST_WALLS];
            for (int w = 0; w < MOST_WALLS; w++) {
                walls[w] = new Wall();
            }
            barns = new Barn[MOST_BARNS];
            for (int b = 0; b < MOST_BARNS; b++) {
                barns[b] = new Barn();
            }
            woods = new Wood[MOST_WOODS];
            for (int w = 0; w < MOST_WOODS; w++) {
                woods[w] = new Wood();
            }
            empty();
        }

        private void empty() {
            wallCount = 0;
            barnCount = 0;
            woodCount = 0;
            hears = 100;
            air = 100;
        }

        /** The WALLS that stand between two PLACES, as bits. */
        private int hidersBetween(int ax, int ay, int bx, int by) {
            int bits = 0;
            for (int w = 0; w < wallCount; w++) {
                if (walls[w].standsBetween(ax, ay, bx, by)) {
                    bits |= 1 << w;
                }
            }
            return bits;
        }

        /** What a LOSS leaves, and the WOODS along a line, each gone through so many times. */
        private int strengthAlong(int loss, int ax, int ay, int bx, int by, int tone, int times) {
            int left = FULL_STRENGTH * (100 - loss) / 100;
            for (int w = 0; w < woodCount; w++) {
                if (woods[w].meets(ax, ay, bx, by)) {
                    for (int k = 0; k < times; k++) {
                        left = left * (100 - woods[w].takes[tone]) / 100;
                    }
                }
            }
            return left;
        }
    }

    /** The tape, and the reading of a LAND's TEXT from it; behind the first FAULT no TOKEN is taken. */
    private static final class Tape {
        private static final int A_WORD = 0;
        private static final int A_NUMBER = 1;
        private static final int A_SIGN = 2;
        private static final int NO_TOKEN = 3;
        private static final int TEXT_END = 4;

        private static final int UNFIT = 1;
        private static final int TOO_MUCH = 2;
        private static final int TOO_LITTLE = 3;
        private static final int TWICE = 4;

        private static final int MOST_DIGITS = 4;
        /** More than any NUMBER of a LAND may be. */
        private static final int TOO_LONG = 10000;

        private final byte[] bytes = new byte[TAPE_BYTES];
        private int length;
        /** Where the TEXT on the tape ends. */
        private int limit;
        /** A TEXT is read into a LAND apart, so that a FAULT leaves the told one as it was. */
        private Land land;
        private boolean hearsTold;
        private boolean airTold;
        private int kind;
        private int start;
        private int end;
        private int value;
        private int found;
        private int place;

        private Tape() {
            land = new Land();
            place = NONE;
        }

        private void append(int four) {
            for (int shift = 24; shift >= 0 && length < TAPE_BYTES; shift -= 8) {
                bytes[length] = (byte) (four >>> shift);
                length++;
            }
        }

        /** Gives the LAND that was read, for another one to read into. */
        private Land exchange(Land earlier) {
            Land read = land;
            land = earlier;
            return read;
        }

        /** Reads the first n bytes and empties the tape: the FAULT, or 0. */
        private int readLand(int n) {
            limit = Math.min(n, length);
            length = 0;
            land.empty();
            hearsTold = false;
            airTold = false;
            found = 0;
            place = NONE;
            end = 0;
            takeToken();
            for (int lines = 0; lines <= limit && kind != TEXT_END && found == 0; lines++) {
                if (isWord("upright")) {
                    readWall(true);
                } else if (isWord("level")) {
                    readWall(false);
                } else if (isWord("barn")) {
                    readBarn();
                } else if (isWord("wood")) {
                    readWood();
                } else if (isWord("hears")) {
                    readHears();
                } else if (isWord("air")) {
                    readAir();
                } else {
                    refuse(UNFIT);
                }
            }
            return found;
        }

        private void readWall(boolean upright) {
            if (land.wallCount >= MOST_WALLS) {
                refuse(TOO_MUCH);
                return;
            }
            takeToken();
            Wall wall = land.walls[land.wallCount];
            wall.upright = upright;
            wall.at = readNumber(0, SIDE - 1, 0);
            wall.from = readNumber(0, SIDE - 1, 0);
            wall.to = readNumber(0, SIDE - 1, wall.from + 1);
            wall.loss = readLoss();
            readSign();
            land.wallCount++;
        }

        private void readBarn() {
            if (land.barnCount >= MOST_BARNS) {
                refuse(TOO_MUCH);
                return;
            }
            takeToken();
            Barn barn = land.barns[land.barnCount];
            barn.x = readNumber(0, SIDE - 1, 0);
            barn.y = readNumber(0, SIDE - 1, 0);
            barn.loss = readLoss();
            barn.from = 0;
            barn.to = YEARS - 1;
            if (isWord("years")) {
                takeToken();
                barn.from = readNumber(0, YEARS - 1, 0);
                barn.to = readNumber(0, YEARS - 1, barn.from);
            }
            readSign();
            land.barnCount++;
        }

        private void readWood() {
            if (land.woodCount >= MOST_WOODS) {
                refuse(TOO_MUCH);
                return;
            }
            takeToken();
            Wood wood = land.woods[land.woodCount];
            wood.lowX = readNumber(0, SIDE - 1, 0);
            wood.lowY = readNumber(0, SIDE - 1, 0);
            wood.highX = readNumber(0, SIDE - 1, wood.lowX);
            wood.highY = readNumber(0, SIDE - 1, wood.lowY);
            for (int tone = 0; tone < TONES; tone++) {
                wood.takes[tone] = readNumber(0, 100, 0);
            }
            readSign();
            land.woodCount++;
        }

        private void readHears() {
            if (hearsTold) {
                refuse(TWICE);
                return;
            }
            hearsTold = true;
            takeToken();
            land.hears = readNumber(0, FULL_STRENGTH, 0);
            readSign();
        }

        private void readAir() {
            if (airTold) {
                refuse(TWICE);
                return;
            }
            airTold = true;
            takeToken();
            land.air = readNumber(LEAST_AIR, MOST_AIR, LEAST_AIR);
            readSign();
        }

        private int readLoss() {
            if (!isWord("loss")) {
                return 0;
            }
            takeToken();
            return readNumber(0, 100, 0);
        }

        /** A NUMBER from least to most that may not be below a floor, told earlier in the LINE. */
        private int readNumber(int least, int most, int floor) {
            if (found != 0) {
                return least;
            }
            if (kind != A_NUMBER) {
                refuse(UNFIT);
                return least;
            }
            if (value < least || value > most) {
                refuse(TOO_MUCH);
                return least;
            }
            if (value < floor) {
                refuse(TOO_LITTLE);
                return least;
            }
            int read = value;
            takeToken();
            return read;
        }

        private void readSign() {
            if (found != 0) {
                return;
            }
            if (kind != A_SIGN) {
                refuse(UNFIT);
                return;
            }
            takeToken();
        }

        private void refuse(int what) {
            found = what;
            place = start;
        }

        private boolean isWord(String word) {
            if (found != 0 || kind != A_WORD || end - start != word.length()) {
                return false;
            }
            for (int i = 0; i < word.length(); i++) {
                if (bytes[start + i] != word.charAt(i)) {
                    return false;
                }
            }
            return true;
        }

        private void takeToken() {
            int at = end;
            while (at < limit && (bytes[at] == 32 || bytes[at] == 10)) {
                at++;
            }
            start = at;
            value = 0;
            kind = at < limit ? kindOf(bytes[at]) : TEXT_END;
            if (kind == A_SIGN || kind == NO_TOKEN) {
                at++;
            }
            while (at < limit && (kind == A_WORD || kind == A_NUMBER) && kindOf(bytes[at]) == kind) {
                // The digits count, not what they make: 00005 is too long.
                value = at - start < MOST_DIGITS ? value * 10 + bytes[at] - '0' : TOO_LONG;
                at++;
            }
            end = at;
        }

        private static int kindOf(int sign) {
            if (sign >= 'a' && sign <= 'z') {
                return A_WORD;
            }
            if (sign >= '0' && sign <= '9') {
                return A_NUMBER;
            }
            return sign == ';' ? A_SIGN : NO_TOKEN;
        }
    }

    // ---- a CLAP

    /** What a clap at one PLACE could meet, told so that things may still be taken away from it. */
    private static final class Scene {
        private static final int LEFT = 0;
        private static final int RIGHT = 1;
        private static final int LOW = 2;
        private static final int HIGH = 3;
        private static final int SIDES = 4;

        private int x;
        private int y;
        private int tone;
        /** Of each WALL: the side on which its foot is, or NONE. */
        private final int[] sides = new int[MOST_WALLS];
        private final int[] distances = new int[MOST_WALLS];
        /** Of each BARN: the square of its distance, 0 if it can't be heard here in that year. */
        private final int[] barnSquares = new int[MOST_BARNS];
        private final int[] hiders = new int[MOST_BARNS];
        /** NONE until they are asked for: the WOODS matter only for what isn't hidden or behind. */
        private final int[] wallStrengths = new int[MOST_WALLS];
        private final int[] barnStrengths = new int[MOST_BARNS];

        private void look(Land land, int placeX, int placeY, int year, int byTone) {
            x = placeX;
            y = placeY;
            tone = byTone;
            for (int w = 0; w < land.wallCount; w++) {
                wallStrengths[w] = NONE;
                lookAtWall(land.walls[w], w);
            }
            for (int b = 0; b < land.barnCount; b++) {
                Barn barn = land.barns[b];
                boolean there = year >= barn.from && year <= barn.to;
                barnStrengths[b] = NONE;
                barnSquares[b] = there ? distanceSquare(x, y, barn.x, barn.y) : 0;
                hiders[b] = barnSquares[b] == 0 ? 0 : land.hidersBetween(x, y, barn.x, barn.y);
            }
        }

        private void lookAtWall(Wall wall, int w) {
            int away = wall.at - (wall.upright ? x : y);
            if (away == 0 || !wall.holds(wall.upright ? y : x)) {
                sides[w] = NONE;
            } else {
                sides[w] = wall.upright ? (away < 0 ? LEFT : RIGHT) : (away < 0 ? LOW : HIGH);
                distances[w] = Math.abs(away);
            }
        }

        private int wallStrength(Land land, int w) {
            if (wallStrengths[w] == NONE) {
                Wall wall = land.walls[w];
                wallStrengths[w] = land.strengthAlong(wall.loss, x, y, wall.footX(x), wall.footY(y), tone, 2);
            }
            return wallStrengths[w];
        }

        private int barnStrength(Land land, int b) {
            if (barnStrengths[b] == NONE) {
                Barn barn = land.barns[b];
                barnStrengths[b] = land.strengthAlong(barn.loss, x, y, barn.x, barn.y, tone, 2);
            }
            return barnStrengths[b];
        }
    }

    /** The echoes of one CLAP, and the HEARD ones of them in order. */
    private static final class Echoes {
        private int size;
        private final int[] numbers = new int[MOST_ECHOES];
        /** Of each echo: the square of its way. */
        private final int[] squares = new int[MOST_ECHOES];
        private final int[] strengths = new int[MOST_ECHOES];
        /** Of each side: the WALL whose FIRST echo comes from there, or NONE. */
        private final int[] nearest = new int[Scene.SIDES];
        private int heard;
        /** Of the HEARD echoes: the roots that AIR divides, the least first. */
        private final int[] roots = new int[MOST_ECHOES];

        /** The echoes of a scene without what is gone: BARN k is bit k, WALL k is bit 8 and k. */
        private void gather(Scene scene, Land land, int gone) {
            size = 0;
            int goneWalls = gone >>> WALL_BIT;
            findNearest(scene, land.wallCount, goneWalls);
            for (int side = 0; side < Scene.SIDES; side++) {
                int w = nearest[side];
                if (w != NONE) {
                    add(w, square(2 * scene.distances[w]), scene.wallStrength(land, w));
                    for (int earlier = 0; earlier < side; earlier++) {
                        addSecond(scene, earlier, side);
                    }
                }
            }
            for (int b = 0; b < land.barnCount; b++) {
                boolean hidden = (scene.hiders[b] & ~goneWalls) != 0;
                if (scene.barnSquares[b] != 0 && (gone >>> b & 1) == 0 && !hidden) {
                    add(BARN_ECHO + b, 4 * scene.barnSquares[b], scene.barnStrength(land, b));
                }
            }
        }

        private void findNearest(Scene scene, int wallCount, int goneWalls) {
            for (int side = 0; side < Scene.SIDES; side++) {
                nearest[side] = NONE;
            }
            for (int w = 0; w < wallCount; w++) {
                int side = scene.sides[w];
                if (side != NONE && (goneWalls >>> w & 1) == 0) {
                    int now = nearest[side];
                    if (now == NONE || scene.distances[w] < scene.distances[now]) {
                        nearest[side] = w;
                    }
                }
            }
        }

        /** Of two sides whose FIRST echoes are added already, so that their strengths are known. */
        private void addSecond(Scene scene, int earlier, int side) {
            int one = nearest[earlier];
            int other = nearest[side];
            if (one == NONE || other == NONE) {
                return;
            }
            int oneWay = 2 * scene.distances[one];
            int otherWay = 2 * scene.distances[other];
            boolean sameSort = side == Scene.RIGHT || earlier == Scene.LOW;
            int way = sameSort ? square(oneWay + otherWay) : square(oneWay) + square(otherWay);
            int number = SECOND_ECHO + 8 * Math.min(one, other) + Math.max(one, other);
            add(number, way, scene.wallStrengths[one] * scene.wallStrengths[other] / FULL_STRENGTH);
        }

        private void add(int number, int square, int strength) {
            if (size >= MOST_ECHOES) {
                return;
            }
            numbers[size] = number;
            squares[size] = square;
            strengths[size] = strength;
            size++;
        }

        private static int square(int way) {
            return way * way;
        }

        private int strengthOf(int number) {
            for (int e = 0; e < size; e++) {
                if (numbers[e] == number) {
                    return strengths[e];
                }
            }
            return NONE;
        }

        private int countHeard(int hears) {
            int loud = 0;
            for (int e = 0; e < size; e++) {
                if (strengths[e] >= hears) {
                    loud++;
                }
            }
            return loud;
        }

        private int orderHeard(int hears) {
            heard = 0;
            for (int e = 0; e < size; e++) {
                if (strengths[e] >= hears) {
                    insert(roots, heard, wayRoot(squares[e]));
                    heard++;
                }
            }
            return heard;
        }

        /** Whether the HEARD echoes, as many as the ordered TICKS, come with them by an AIR. */
        private boolean rowIs(int[] ordered, int air) {
            for (int i = 0; i < heard && i < ordered.length; i++) {
                if (byAir(roots[i], air) != ordered[i]) {
                    return false;
                }
            }
            return true;
        }

        private boolean fit(Station station, Land land) {
            // Most PLACES and most sets of gone things fail by their number alone, without a root.
            if (countHeard(land.hears) != station.ticks) {
                return false;
            }
            orderHeard(land.hears);
            return rowIs(station.ordered, land.air);
        }

        private boolean comesAt(int e, int tick, Land land) {
            return strengths[e] >= land.hears && byAir(wayRoot(squares[e]), land.air) == tick;
        }

        private int howManyAt(int tick, Land land) {
            int found = 0;
            for (int e = 0; e < size; e++) {
                if (comesAt(e, tick, land)) {
                    found++;
                }
            }
            return found;
        }

        private int leastAt(int tick, Land land) {
            int least = NONE;
            for (int e = 0; e < size; e++) {
                if (comesAt(e, tick, land) && (least == NONE || numbers[e] < least)) {
                    least = numbers[e];
                }
            }
            return least;
        }

        private int countFirstHeard(int hears) {
            int loud = 0;
            for (int e = 0; e < size; e++) {
                if (numbers[e] < SECOND_ECHO && strengths[e] >= hears) {
                    loud++;
                }
            }
            return loud;
        }

        /** Fills a row with the TICKS at which a THIEF hears the FIRST echoes. */
        private void orderForThief(Scene scene, Land land, int hisX, int hisY, int[] row) {
            int straight = byAir(wayRoot(distanceSquare(scene.x, scene.y, hisX, hisY)), land.air);
            int length = 0;
            for (int e = 0; e < size; e++) {
                boolean first = numbers[e] < SECOND_ECHO;
                if (first && strengths[e] >= land.hears && length < row.length) {
                    int both = thiefRoots(scene, land, numbers[e], hisX, hisY);
                    insert(row, length, byAir(both, land.air) - straight);
                    length++;
                }
            }
        }

        private static int thiefRoots(Scene scene, Land land, int number, int hisX, int hisY) {
            int footX;
            int footY;
            if (number >= BARN_ECHO) {
                Barn barn = land.barns[number - BARN_ECHO];
                footX = barn.x;
                footY = barn.y;
            } else {
                Wall wall = land.walls[number];
                footX = wall.footX(scene.x);
                footY = wall.footY(scene.y);
            }
            return wayRoot(distanceSquare(scene.x, scene.y, footX, footY))
                    + wayRoot(distanceSquare(footX, footY, hisX, hisY));
        }
    }

    // ---- THE BOOK

    private static final class Station {
        private int x;
        private int y;
        private int year;
        private int tone;
        private int ticks;
        private final int[] written = new int[MOST_WRITTEN];
        private final int[] ordered = new int[MOST_WRITTEN];

        private void begin(int placeX, int placeY, int inYear, int byTone) {
            x = placeX;
            y = placeY;
            year = inYear;
            tone = byTone;
            ticks = 0;
        }

        private boolean isNamed() {
            return x != NONE;
        }

        private void write(int tick) {
            if (ticks >= MOST_WRITTEN) {
                return;
            }
            written[ticks] = tick;
            insert(ordered, ticks, tick);
            ticks++;
        }

        private void copyFrom(Station other) {
            begin(other.x, other.y, other.year, other.tone);
            ticks = other.ticks;
            System.arraycopy(other.written, 0, written, 0, MOST_WRITTEN);
            System.arraycopy(other.ordered, 0, ordered, 0, MOST_WRITTEN);
        }
    }

    /** What an IMAGE keeps: STATIONS, SPOTS and STATUS. */
    private static final class Book {
        private final Station[] stations;
        private int stationCount;
        private final int[] spotX = new int[MOST_SPOTS];
        private final int[] spotY = new int[MOST_SPOTS];
        private int spotCount;
        private final int[] refused = new int[REFUSED_KINDS];
        /** The named STATIONS of the year that was asked for last. */
        private final Station[] picked;
        private int pickedCount;

        private Book() {
            stations = new Station[MOST_STATIONS];
            picked = new Station[MOST_STATIONS];
            for (int s = 0; s < MOST_STATIONS; s++) {
                stations[s] = new Station();
                picked[s] = stations[s];
            }
        }

        private void empty() {
            stationCount = 0;
            spotCount = 0;
        }

        private int pickNamed(int year) {
            pickedCount = 0;
            for (int s = 0; s < stationCount; s++) {
                if (stations[s].isNamed() && stations[s].year == year) {
                    picked[pickedCount] = stations[s];
                    pickedCount++;
                }
            }
            return pickedCount;
        }

        private void copyFrom(Book other) {
            stationCount = other.stationCount;
            for (int s = 0; s < stationCount; s++) {
                stations[s].copyFrom(other.stations[s]);
            }
            spotCount = other.spotCount;
            System.arraycopy(other.spotX, 0, spotX, 0, MOST_SPOTS);
            System.arraycopy(other.spotY, 0, spotY, 0, MOST_SPOTS);
            System.arraycopy(other.refused, 0, refused, 0, REFUSED_KINDS);
        }
    }

    // ---- PLANS

    private static final class Planner {
        private static final int LINES = 2 * SIDE;
        private static final int MOST_LINES = 3;
        private static final int BASE = LINES + 1;

        private int air;
        /** The lines that no STATION rules out by itself. */
        private final int[] lines = new int[LINES];
        private int lineCount;
        /** The lines of the plan that is tried, NONE behind them. */
        private final int[] plan = new int[MOST_LINES];
        private final int[] row = new int[MOST_LINES];
        private int wanted;
        private int found;
        private int answer;

        private void prepare(Book book, int byAir) {
            air = byAir;
            lineCount = 0;
            for (int s = 0; s < book.pickedCount; s++) {
                if (book.picked[s].ticks > MOST_LINES) {
                    return;
                }
            }
            for (int line = 0; line < LINES; line++) {
                if (isAllowed(line, book)) {
                    lines[lineCount] = line;
                    lineCount++;
                }
            }
        }

        private boolean isAllowed(int line, Book book) {
            for (int s = 0; s < book.pickedCount; s++) {
                int tick = tickOf(line, book.picked[s]);
                if (tick != NONE && !isWritten(tick, book.picked[s])) {
                    return false;
                }
            }
            return true;
        }

        private static boolean isWritten(int tick, Station station) {
            for (int i = 0; i < station.ticks; i++) {
                if (station.written[i] == tick) {
                    return true;
                }
            }
            return false;
        }

        /** NONE: the STATION lies on the line. */
        private int tickOf(int line, Station station) {
            int away = Math.abs(line < SIDE ? station.x - line : station.y - (line - SIDE));
            return away == 0 ? NONE : byAir(wayRoot(4 * away * away), air);
        }

        /** How many plans there are (wanted NONE), or the one that is wanted, NONE without. */
        private int search(Book book, int which) {
            wanted = which;
            found = 0;
            answer = NONE;
            tryPlan(book, NONE, NONE, NONE);
            for (int a = 0; a < lineCount; a++) {
                tryPlan(book, lines[a], NONE, NONE);
            }
            for (int a = 0; a < lineCount; a++) {
                for (int b = a + 1; b < lineCount; b++) {
                    tryPlan(book, lines[a], lines[b], NONE);
                }
            }
            for (int a = 0; a < lineCount; a++) {
                for (int b = a + 1; b < lineCount; b++) {
                    for (int c = b + 1; c < lineCount; c++) {
                        tryPlan(book, lines[a], lines[b], lines[c]);
                    }
                }
            }
            return wanted == NONE ? found : answer;
        }

        private void tryPlan(Book book, int a, int b, int c) {
            plan[0] = a;
            plan[1] = b;
            plan[2] = c;
            for (int s = 0; s < book.pickedCount; s++) {
                if (!agrees(book.picked[s])) {
                    return;
                }
            }
            if (found == wanted) {
                answer = BASE * BASE * (a + 1) + BASE * (b + 1) + c + 1;
            }
            found++;
        }

        private boolean agrees(Station station) {
            int length = 0;
            for (int k = 0; k < MOST_LINES; k++) {
                int tick = plan[k] == NONE ? NONE : tickOf(plan[k], station);
                if (tick != NONE) {
                    insert(row, length, tick);
                    length++;
                }
            }
            return length == station.ticks && sameStart(row, station.ordered, length);
        }
    }

    // ---- NEXT

    private static final class Chooser {
        private static final int SETS = 1 << LANDS;

        private final int[][] rows = new int[LANDS][MOST_ECHOES];
        private final int[] lengths = new int[LANDS];
        /** By SPOT and LAND: the LANDS whose ROW there is like that LAND's, as bits. */
        private final int[] alike = new int[MOST_SPOTS * LANDS];
        /** Of each set of LANDS: the claps that tell which one it is, or NONE. */
        private final int[] claps = new int[SETS];
        private final int[] firstSpot = new int[SETS];

        private void keepRow(int land, Echoes echoes, Land told) {
            lengths[land] = echoes.orderHeard(told.hears);
            for (int i = 0; i < lengths[land]; i++) {
                rows[land][i] = byAir(echoes.roots[i], told.air);
            }
        }

        private void compareRows(int spot) {
            for (int one = 0; one < LANDS; one++) {
                int bits = 0;
                for (int other = 0; other < LANDS; other++) {
                    if (lengths[one] == lengths[other] && sameStart(rows[one], rows[other], lengths[one])) {
                        bits |= 1 << other;
                    }
                }
                alike[spot * LANDS + one] = bits;
            }
        }

        /** Sets come behind all sets that are parts of them, so what they need is already known. */
        private void choose(int spots, int most) {
            for (int set = 0; set <= most && set < SETS; set++) {
                claps[set] = Integer.bitCount(set) < 2 ? 0 : NONE;
                firstSpot[set] = NONE;
                for (int spot = 0; spot < spots && claps[set] != 0; spot++) {
                    int needed = clapsFrom(spot, set);
                    if (needed != NONE && (claps[set] == NONE || needed < claps[set])) {
                        claps[set] = needed;
                        firstSpot[set] = spot;
                    }
                }
            }
        }

        /** The claps that a set needs at worst if the first is at a SPOT; NONE if that is of no use. */
        private int clapsFrom(int spot, int set) {
            int worst = 0;
            for (int land = 0; land < LANDS; land++) {
                if ((set >>> land & 1) != 0) {
                    int left = set & alike[spot * LANDS + land];
                    if (left == set || claps[left] == NONE) {
                        return NONE;
                    }
                    worst = Math.max(worst, claps[left]);
                }
            }
            return worst + 1;
        }
    }
}
