import java.math.BigInteger;
import java.util.ArrayList;
import java.util.Collections;
import java.util.List;
import java.util.NoSuchElementException;
import java.util.regex.Matcher;
import java.util.regex.Pattern;

/** The document's words once more, as slowly and plainly as they are said, to compare answers with. */
final class SlowValley {
    private static final int NONE = -1;

    /** A wall as told: its two ends. */
    record Wall(boolean upright, int ax, int ay, int bx, int by, int loss) {
    }

    record Barn(int x, int y, int loss, int from, int to) {
    }

    record Wood(int ax, int ay, int bx, int by, List<Integer> takes) {
    }

    /** A wall or barn that is gone is null in its list. */
    record Land(List<Wall> walls, List<Barn> barns, List<Wood> woods, int hears, int air) {
    }

    record Echo(int number, BigInteger waySquare, int strength, int footX, int footY) {
    }

    record Station(int x, int y, int year, int tone, List<Integer> ticks) {
    }

    /** The first fault of a text. */
    static final class Fault extends Exception {
        private static final long serialVersionUID = 1;
        final int kind;
        final int place;

        Fault(int kind, int place) {
            this.kind = kind;
            this.place = place;
        }
    }

    private final List<Integer> tape = new ArrayList<>();
    private final Land[] lands = new Land[6];
    private int faultPlace = NONE;
    private List<Station> stations = new ArrayList<>();
    private List<int[]> spots = new ArrayList<>();
    private int[] status = new int[4];
    private List<Station> keptStations = null;
    private List<int[]> keptSpots = null;
    private int[] keptStatus = null;

    SlowValley() {
        for (int k = 0; k < 6; k++) {
            lands[k] = new Land(List.of(), List.of(), List.of(), 100, 100);
        }
    }

    // ---- texts

    int feed(int... five) {
        if (tape.size() + 20 > 700) {
            return NONE;
        }
        for (int number : five) {
            for (int shift = 24; shift >= 0; shift -= 8) {
                tape.add(number >> shift & 255);
            }
        }
        return tape.size();
    }

    int land(int land, int n) {
        must(land >= 0 && land < 6);
        if (n < 0 || n > tape.size()) {
            throw new IllegalArgumentException();
        }
        StringBuilder text = new StringBuilder();
        for (int i = 0; i < n; i++) {
            text.append((char) (int) tape.get(i));
        }
        tape.clear();
        try {
            lands[land] = new Text(text.toString()).whole();
            faultPlace = NONE;
            return 0;
        } catch (Fault fault) {
            faultPlace = fault.place;
            status[0]++;
            return fault.kind;
        }
    }

    private static final class Text {
        private final List<String> tokens = new ArrayList<>();
        private final List<Integer> places = new ArrayList<>();
        private int at = 0;

        Text(String text) {
            Matcher matcher = Pattern.compile("[a-z]+|[0-9]+|[ \n]|.", Pattern.DOTALL).matcher(text);
            while (matcher.find()) {
                if (!matcher.group().equals(" ") && !matcher.group().equals("\n")) {
                    tokens.add(matcher.group());
                    places.add(matcher.start());
                }
            }
            tokens.add("the end");
            places.add(text.length());
        }

        Land whole() throws Fault {
            List<Wall> walls = new ArrayList<>();
            List<Barn> barns = new ArrayList<>();
            List<Wood> woods = new ArrayList<>();
            int hears = NONE;
            int air = NONE;
            while (!tokens.get(at).equals("the end")) {
                String word = tokens.get(at);
                switch (word) {
                    case "upright":
                    case "level":
                        wrong(walls.size() == 6, 2);
                        at++;
                        walls.add(wall(word.equals("upright")));
                        break;
                    case "barn":
                        wrong(barns.size() == 6, 2);
                        at++;
                        barns.add(barn());
                        break;
                    case "wood":
                        wrong(woods.size() == 4, 2);
                        at++;
                        woods.add(wood());
                        break;
                    case "hears":
                        wrong(hears != NONE, 4);
                        at++;
                        hears = number(0, 1000, 0);
                        break;
                    case "air":
                        wrong(air != NONE, 4);
                        at++;
                        air = number(50, 150, 0);
                        break;
                    default:
                        wrong(true, 1);
                }
                wrong(!tokens.get(at).equals(";"), 1);
                at++;
            }
            return new Land(walls, barns, woods, hears == NONE ? 100 : hears, air == NONE ? 100 : air);
        }

        private Wall wall(boolean upright) throws Fault {
            int line = number(0, 40, 0);
            int from = number(0, 40, 0);
            int to = number(0, 40, from + 1);
            int loss = loss();
            return upright ? new Wall(true, line, from, line, to, loss) : new Wall(false, from, line, to, line, loss);
        }

        private Barn barn() throws Fault {
            int x = number(0, 40, 0);
            int y = number(0, 40, 0);
            int loss = loss();
            if (!tokens.get(at).equals("years")) {
                return new Barn(x, y, loss, 0, 99);
            }
            at++;
            int from = number(0, 99, 0);
            return new Barn(x, y, loss, from, number(0, 99, from));
        }

        private Wood wood() throws Fault {
            int ax = number(0, 40, 0);
            int ay = number(0, 40, 0);
            int bx = number(0, 40, ax);
            int by = number(0, 40, ay);
            return new Wood(ax, ay, bx, by, List.of(number(0, 100, 0), number(0, 100, 0), number(0, 100, 0)));
        }

        private int loss() throws Fault {
            if (!tokens.get(at).equals("loss")) {
                return 0;
            }
            at++;
            return number(0, 100, 0);
        }

        private int number(int least, int most, int floor) throws Fault {
            String token = tokens.get(at);
            wrong(!token.matches("[0-9]+"), 1);
            wrong(token.length() > 4, 2);
            int number = Integer.parseInt(token);
            wrong(number < least || number > most, 2);
            wrong(number < floor, 3);
            at++;
            return number;
        }

        private void wrong(boolean isSo, int kind) throws Fault {
            if (isSo) {
                throw new Fault(kind, places.get(at));
            }
        }
    }

    int fault() {
        return faultPlace;
    }

    int count(int what) {
        must(what >= 0 && what <= 6);
        return what == 0 ? tape.size() : what == 1 ? stations.size() : what == 2 ? spots.size() : status[what - 3];
    }

    int about(int land, int what) {
        must(land >= 0 && land < 6 && what >= 0 && what <= 4);
        Land asked = lands[land];
        return List.of(asked.walls.size(), asked.barns.size(), asked.woods.size(), asked.hears, asked.air).get(what);
    }

    // ---- claps

    /** On which side of the line from a to b a point is: its sign. */
    private static int turn(int ax, int ay, int bx, int by, int px, int py) {
        return Integer.signum((bx - ax) * (py - ay) - (by - ay) * (px - ax));
    }

    private static boolean onSegment(int ax, int ay, int bx, int by, int px, int py) {
        return turn(ax, ay, bx, by, px, py) == 0 && px >= Math.min(ax, bx) && px <= Math.max(ax, bx)
                && py >= Math.min(ay, by) && py <= Math.max(ay, by);
    }

    private static boolean cross(int[] s, int[] t) {
        int one = turn(s[0], s[1], s[2], s[3], t[0], t[1]);
        int two = turn(s[0], s[1], s[2], s[3], t[2], t[3]);
        int three = turn(t[0], t[1], t[2], t[3], s[0], s[1]);
        int four = turn(t[0], t[1], t[2], t[3], s[2], s[3]);
        return one * two < 0 && three * four < 0
                || onSegment(s[0], s[1], s[2], s[3], t[0], t[1]) || onSegment(s[0], s[1], s[2], s[3], t[2], t[3])
                || onSegment(t[0], t[1], t[2], t[3], s[0], s[1]) || onSegment(t[0], t[1], t[2], t[3], s[2], s[3]);
    }

    private static boolean meets(Wood wood, int ax, int ay, int bx, int by) {
        int[] way = {ax, ay, bx, by};
        return ax >= wood.ax && ax <= wood.bx && ay >= wood.ay && ay <= wood.by
                || cross(way, new int[] {wood.ax, wood.ay, wood.bx, wood.ay})
                || cross(way, new int[] {wood.ax, wood.by, wood.bx, wood.by})
                || cross(way, new int[] {wood.ax, wood.ay, wood.ax, wood.by})
                || cross(way, new int[] {wood.bx, wood.ay, wood.bx, wood.by});
    }

    private static boolean hidden(Land land, int ax, int ay, int bx, int by) {
        for (Wall wall : land.walls) {
            if (wall != null) {
                boolean between = wall.upright ? (wall.ax - ax) * (wall.ax - bx) < 0 : (wall.ay - ay) * (wall.ay - by) < 0;
                if (between && cross(new int[] {ax, ay, bx, by}, new int[] {wall.ax, wall.ay, wall.bx, wall.by})) {
                    return true;
                }
            }
        }
        return false;
    }

    private static int through(Land land, int strength, int[] way, int tone, int times) {
        int left = strength;
        for (Wood wood : land.woods) {
            for (int k = 0; k < times && meets(wood, way[0], way[1], way[2], way[3]); k++) {
                left = left * (100 - wood.takes.get(tone)) / 100;
            }
        }
        return left;
    }

    private static Echo straight(Land land, int number, int loss, int[] way, int tone) {
        int across = way[2] - way[0];
        int along = way[3] - way[1];
        BigInteger square = BigInteger.valueOf(4L * (across * across + along * along));
        int strength = through(land, 1000 * (100 - loss) / 100, way, tone, 2);
        return new Echo(number, square, strength, way[2], way[3]);
    }

    private static List<Echo> echoes(Land land, int x, int y, int year, int tone) {
        List<Echo> found = new ArrayList<>();
        for (int w = 0; w < land.walls.size(); w++) {
            if (comesFrom(land, w, x, y)) {
                Wall wall = land.walls.get(w);
                int[] way = {x, y, wall.upright ? wall.ax : x, wall.upright ? y : wall.ay};
                found.add(straight(land, w, wall.loss, way, tone));
            }
        }
        int walls = found.size();
        for (int i = 0; i < walls; i++) {
            for (int j = i + 1; j < walls; j++) {
                found.add(second(land, found.get(i), found.get(j)));
            }
        }
        for (int b = 0; b < land.barns.size(); b++) {
            Barn barn = land.barns.get(b);
            if (barn != null && year >= barn.from && year <= barn.to && (barn.x != x || barn.y != y)
                    && !hidden(land, x, y, barn.x, barn.y)) {
                found.add(straight(land, 8 + b, barn.loss, new int[] {x, y, barn.x, barn.y}, tone));
            }
        }
        return found;
    }

    /** How far a wall's foot is, to the greater side above 0; 0 if there is none or the place is at its line. */
    private static int footAway(Wall wall, int x, int y) {
        if (wall == null || (wall.upright ? y < wall.ay || y > wall.by : x < wall.ax || x > wall.bx)) {
            return 0;
        }
        return wall.upright ? wall.ax - x : wall.ay - y;
    }

    private static boolean comesFrom(Land land, int w, int x, int y) {
        int away = footAway(land.walls.get(w), x, y);
        if (away == 0) {
            return false;
        }
        for (int o = 0; o < land.walls.size(); o++) {
            Wall other = land.walls.get(o);
            int otherAway = footAway(other, x, y);
            if (o != w && otherAway * away > 0 && other.upright == land.walls.get(w).upright) {
                int difference = Math.abs(otherAway) - Math.abs(away);
                if (difference < 0 || difference == 0 && o < w) {
                    return false;
                }
            }
        }
        return true;
    }

    private static Echo second(Land land, Echo one, Echo other) {
        boolean sameSort = land.walls.get(one.number).upright == land.walls.get(other.number).upright;
        BigInteger way = one.waySquare.sqrt().add(other.waySquare.sqrt());
        BigInteger square = sameSort ? way.multiply(way) : one.waySquare.add(other.waySquare);
        return new Echo(16 + 8 * one.number + other.number, square, one.strength * other.strength / 1000, NONE, NONE);
    }

    private static int root(BigInteger square) {
        return square.multiply(BigInteger.valueOf(10000)).sqrt().intValueExact();
    }

    private static List<Integer> row(Land land, int air, int[] placeYearTone) {
        List<Integer> row = new ArrayList<>();
        for (Echo echo : echoes(land, placeYearTone[0], placeYearTone[1], placeYearTone[2], placeYearTone[3])) {
            if (echo.strength >= land.hears) {
                row.add(root(echo.waySquare) / air);
            }
        }
        Collections.sort(row);
        return row;
    }

    int clap(int land, int x, int y, int year, int tone, int i) {
        mustClap(land, x, y, year, tone);
        List<Integer> row = row(lands[land], lands[land].air, new int[] {x, y, year, tone});
        return countOrOne(row, i);
    }

    int strength(int land, int x, int y, int year, int tone, int echo) {
        mustClap(land, x, y, year, tone);
        must(echo >= 0 && echo < 80);
        for (Echo found : echoes(lands[land], x, y, year, tone)) {
            if (found.number == echo) {
                return found.strength;
            }
        }
        return NONE;
    }

    // ---- the book

    int station(int x, int y, int year, int tone) {
        boolean unnamed = x == NONE && y == NONE;
        if (!unnamed && !isPlace(x, y) || year < 0 || year > 99 || tone < 0 || tone > 2 || stations.size() == 20) {
            status[1]++;
            return NONE;
        }
        stations.add(new Station(x, y, year, tone, new ArrayList<>()));
        return stations.size() - 1;
    }

    int tick(int station, int ticks) {
        List<Integer> written = mustStation(station).ticks;
        if (written.size() == 12 || ticks < 0 || ticks > 9999) {
            status[2]++;
            return NONE;
        }
        written.add(ticks);
        return written.size();
    }

    int told(int station, int what) {
        Station asked = mustStation(station);
        must(what >= 0 && (what < 5 || what >= 10) && what - 10 < asked.ticks.size());
        return what >= 10 ? asked.ticks.get(what - 10)
                : List.of(asked.x, asked.y, asked.year, asked.tone, asked.ticks.size()).get(what);
    }

    private static boolean fits(Land land, int air, Station station, int x, int y) {
        List<Integer> ordered = new ArrayList<>(station.ticks);
        Collections.sort(ordered);
        return ordered.equals(row(land, air, new int[] {x, y, station.year, station.tone}));
    }

    int fits(int land, int station) {
        must(land >= 0 && land < 6);
        Station asked = mustStation(station);
        return asked.x != NONE && fits(lands[land], lands[land].air, asked, asked.x, asked.y) ? 1 : 0;
    }

    int where(int land, int station, int i) {
        must(land >= 0 && land < 6);
        Station asked = mustStation(station);
        List<Integer> places = new ArrayList<>();
        for (int y = 0; y <= 40; y++) {
            for (int x = 0; x <= 40; x++) {
                if (fits(lands[land], lands[land].air, asked, x, y)) {
                    places.add(41 * y + x);
                }
            }
        }
        return countOrOne(places, i);
    }

    int airs(int land, int station, int what) {
        must(land >= 0 && land < 6);
        Station asked = mustStation(station);
        must(asked.x != NONE && what >= 0 && what <= 2);
        List<Integer> airs = new ArrayList<>();
        for (int air = 50; air <= 150; air++) {
            if (fits(lands[land], air, asked, asked.x, asked.y)) {
                airs.add(air);
            }
        }
        return what == 0 ? airs.size() : airs.isEmpty() ? NONE : what == 1 ? airs.get(0) : airs.get(airs.size() - 1);
    }

    int whose(int land, int station, int i, int what) {
        must(land >= 0 && land < 6);
        Station asked = mustStation(station);
        must(asked.x != NONE && i >= 0 && i < asked.ticks.size() && (what == 0 || what == 1));
        List<Integer> numbers = new ArrayList<>();
        for (Echo echo : echoes(lands[land], asked.x, asked.y, asked.year, asked.tone)) {
            if (echo.strength >= lands[land].hears && root(echo.waySquare) / lands[land].air == asked.ticks.get(i)) {
                numbers.add(echo.number);
            }
        }
        return what == 0 ? numbers.size() : numbers.isEmpty() ? NONE : Collections.min(numbers);
    }

    private List<Station> named(int year) {
        List<Station> found = new ArrayList<>();
        for (Station station : stations) {
            if (station.x != NONE && station.year == year) {
                found.add(station);
            }
        }
        return found;
    }

    int gone(int land, int year) {
        must(land >= 0 && land < 6 && year >= 0 && year < 100);
        Land whole = lands[land];
        int best = NONE;
        for (int bits = 0; bits < 1 << 14; bits++) {
            boolean real = (bits & 255) < 1 << whole.barns.size() && bits >> 8 < 1 << whole.walls.size();
            if (real && (best == NONE || Integer.bitCount(bits) < Integer.bitCount(best)) && allFit(whole, bits, year)) {
                best = bits;
            }
        }
        return best;
    }

    private boolean allFit(Land whole, int bits, int year) {
        List<Wall> walls = new ArrayList<>(whole.walls);
        List<Barn> barns = new ArrayList<>(whole.barns);
        for (int k = 0; k < 6; k++) {
            if ((bits >> k & 1) == 1) {
                barns.set(k, null);
            }
            if ((bits >> 8 + k & 1) == 1) {
                walls.set(k, null);
            }
        }
        Land left = new Land(walls, barns, whole.woods, whole.hears, whole.air);
        for (Station station : named(year)) {
            if (!fits(left, left.air, station, station.x, station.y)) {
                return false;
            }
        }
        return true;
    }

    // ---- plans, next, thief, word

    int plans(int year, int air, int i) {
        must(year >= 0 && year < 100);
        List<Station> asked = named(year);
        if (air < 50 || air > 150 || asked.isEmpty()) {
            throw new IllegalArgumentException();
        }
        List<Integer> one = new ArrayList<>();
        List<Integer> two = new ArrayList<>();
        List<Integer> three = new ArrayList<>();
        for (int a = 0; a < 82; a++) {
            addPlan(one, asked, air, a);
            for (int b = a + 1; b < 82; b++) {
                addPlan(two, asked, air, a, b);
                for (int c = b + 1; c < 82; c++) {
                    addPlan(three, asked, air, a, b, c);
                }
            }
        }
        List<Integer> all = new ArrayList<>();
        addPlan(all, asked, air);
        all.addAll(one);
        all.addAll(two);
        all.addAll(three);
        return countOrOne(all, i);
    }

    private static void addPlan(List<Integer> found, List<Station> asked, int air, int... lines) {
        for (Station station : asked) {
            List<Integer> row = new ArrayList<>();
            for (int line : lines) {
                int away = Math.abs(line <= 40 ? line - station.x : line - 41 - station.y);
                if (away != 0) {
                    row.add(100 * 2 * away / air);
                }
            }
            List<Integer> ordered = new ArrayList<>(station.ticks);
            Collections.sort(ordered);
            Collections.sort(row);
            if (!row.equals(ordered)) {
                return;
            }
        }
        int number = 0;
        for (int k = 0; k < 3; k++) {
            number = number * 83 + (k < lines.length ? lines[k] + 1 : 0);
        }
        found.add(number);
    }

    int spot(int x, int y) {
        if (!isPlace(x, y) || spots.size() == 8) {
            status[3]++;
            return NONE;
        }
        spots.add(new int[] {x, y});
        return spots.size() - 1;
    }

    int next(int bits, int year, int tone, int what) {
        must(year >= 0 && year < 100 && tone >= 0 && tone < 3 && (what == 0 || what == 1));
        if (bits < 0 || bits > 63) {
            throw new IllegalArgumentException();
        }
        if (Integer.bitCount(bits) < 2) {
            return what == 0 ? 0 : NONE;
        }
        for (int claps = 1; claps <= 5; claps++) {
            for (int spot = 0; spot < spots.size(); spot++) {
                if (tells(bits, year, tone, spot, claps)) {
                    return what == 0 ? claps : spot;
                }
            }
        }
        return NONE;
    }

    /** Whether with so many claps, the first at a spot, it is known which land it is. */
    private boolean tells(int bits, int year, int tone, int spot, int claps) {
        for (int k = 0; k < 6; k++) {
            if ((bits >> k & 1) == 1) {
                int left = 0;
                for (int o = 0; o < 6; o++) {
                    if ((bits >> o & 1) == 1 && rowAt(k, year, tone, spot).equals(rowAt(o, year, tone, spot))) {
                        left |= 1 << o;
                    }
                }
                boolean known = Integer.bitCount(left) == 1;
                for (int s = 0; s < spots.size() && !known && claps > 1; s++) {
                    known = tells(left, year, tone, s, claps - 1);
                }
                if (!known) {
                    return false;
                }
            }
        }
        return true;
    }

    private List<Integer> rowAt(int land, int year, int tone, int spot) {
        return row(lands[land], lands[land].air, new int[] {spots.get(spot)[0], spots.get(spot)[1], year, tone});
    }

    private static int way(int ax, int ay, int bx, int by) {
        return root(BigInteger.valueOf((long) (ax - bx) * (ax - bx) + (long) (ay - by) * (ay - by)));
    }

    private static List<Integer> stolen(Land land, int x, int y, int hisX, int hisY) {
        List<Integer> row = new ArrayList<>();
        for (Echo echo : echoes(land, x, y, 0, 0)) {
            if (echo.number < 16 && echo.strength >= land.hears) {
                int both = way(x, y, echo.footX, echo.footY) + way(echo.footX, echo.footY, hisX, hisY);
                row.add(both / land.air - way(x, y, hisX, hisY) / land.air);
            }
        }
        Collections.sort(row);
        return row;
    }

    int knows(int land, int x, int y, int hisX, int hisY) {
        must(land >= 0 && land < 6 && isPlace(x, y) && isPlace(hisX, hisY));
        List<Integer> heard = stolen(lands[land], x, y, hisX, hisY);
        int found = 0;
        for (int place = 0; place < 1681; place++) {
            found += heard.equals(stolen(lands[land], place / 41, place % 41, hisX, hisY)) ? 1 : 0;
        }
        return found;
    }

    int word(int land, int x, int y, int tone) {
        must(land >= 0 && land < 6 && isPlace(x, y) && tone >= 0 && tone < 3);
        int found = 0;
        for (int place = 0; place < 1681; place++) {
            int[] way = {x, y, place / 41, place % 41};
            if ((way[2] != x || way[3] != y) && !hidden(lands[land], x, y, way[2], way[3])
                    && through(lands[land], 1000, way, tone, 1) >= lands[land].hears) {
                found++;
            }
        }
        return found;
    }

    // ---- the image

    int clear() {
        stations.clear();
        spots.clear();
        return 0;
    }

    int image() {
        keptStations = copy(stations);
        keptSpots = new ArrayList<>(spots);
        keptStatus = status.clone();
        return 0;
    }

    int restore() {
        if (keptStations == null) {
            return 0;
        }
        stations = copy(keptStations);
        spots = new ArrayList<>(keptSpots);
        status = keptStatus.clone();
        return 1;
    }

    private static List<Station> copy(List<Station> from) {
        List<Station> made = new ArrayList<>();
        for (Station s : from) {
            made.add(new Station(s.x, s.y, s.year, s.tone, new ArrayList<>(s.ticks)));
        }
        return made;
    }

    // ---- needs

    private static int countOrOne(List<Integer> all, int i) {
        must(i >= NONE && i < all.size());
        return i == NONE ? all.size() : all.get(i);
    }

    private static boolean isPlace(int x, int y) {
        return x >= 0 && x <= 40 && y >= 0 && y <= 40;
    }

    private static void must(boolean isSo) {
        if (!isSo) {
            throw new NoSuchElementException();
        }
    }

    private static void mustClap(int land, int x, int y, int year, int tone) {
        must(land >= 0 && land < 6 && isPlace(x, y) && year >= 0 && year < 100 && tone >= 0 && tone < 3);
    }

    private Station mustStation(int station) {
        must(station >= 0 && station < stations.size());
        return stations.get(station);
    }
}
