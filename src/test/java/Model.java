import java.math.BigInteger;
import java.util.ArrayDeque;
import java.util.ArrayList;
import java.util.Arrays;
import java.util.Deque;
import java.util.HashSet;
import java.util.List;
import java.util.NoSuchElementException;
import java.util.Set;
import java.util.regex.Matcher;
import java.util.regex.Pattern;

/** The document once more, written the plainest way and with all of Java's library: ModelTest sets it beside TetherSky. */
final class Model {
    static final class Fault extends RuntimeException {
        final int kind;
        final int place;

        Fault(int kind, int place) {
            this.kind = kind;
            this.place = place;
        }
    }

    /** A rule: its values are lift, weight, rope, knots, people, hour, day, size. */
    interface Expr {
        int of(int[] values);
    }

    static final class Isle {
        int kind;
        int px;
        int py;
        int rope;
        int lift;
        int size;
        int people;
        int load;
        int goats;
        int knots;
        int[] sides = new int[4];

        Isle copy() {
            Isle c = new Isle();
            c.kind = kind;
            c.px = px;
            c.py = py;
            c.rope = rope;
            c.lift = lift;
            c.size = size;
            c.people = people;
            c.load = load;
            c.goats = goats;
            c.knots = knots;
            c.sides = sides.clone();
            return c;
        }

        int weight() {
            return people + load + goats * 2 + (kind == 1 ? 5 : 0);
        }
    }

    static final class Spot {
        int x;
        int y;
        int high;
        int push;
        int size;
    }

    static final class Told {
        List<Isle> isles = new ArrayList<>();
        int[] windX = new int[168];
        int[] windY = new int[168];
        Set<Integer> windHours = new HashSet<>();
        int church = 0;
        int reach = 2;
        int light = 8;
        int[] weights = {1, 0, 0, 0};
        Expr push = null;
    }

    static final class Changing {
        List<Isle> isles = new ArrayList<>();
        List<List<Isle>> before = new ArrayList<>();
        List<int[]> crossings = new ArrayList<>();
        List<int[]> seen = new ArrayList<>();
        int[] status = new int[3];

        Changing copy() {
            Changing c = new Changing();
            c.isles = copyOf(isles);
            for (List<Isle> row : before) {
                c.before.add(copyOf(row));
            }
            c.crossings = new ArrayList<>(crossings);
            c.seen = new ArrayList<>(seen);
            c.status = status.clone();
            return c;
        }
    }

    static List<Isle> copyOf(List<Isle> isles) {
        List<Isle> copy = new ArrayList<>();
        for (Isle isle : isles) {
            copy.add(isle.copy());
        }
        return copy;
    }

    private final List<Byte> tape = new ArrayList<>();
    private int faultPlace = -1;
    private Told told = new Told();
    private Changing now = new Changing();
    private Changing kept = null;
    private int[] ropes = null;

    // ---- texts ----

    static final class Token {
        String text;
        int place;

        Token(String text, int place) {
            this.text = text;
            this.place = place;
        }

        boolean isWord() {
            return text.matches("[a-z]+");
        }

        boolean isNumber() {
            return text.matches("[0-9]+");
        }
    }

    static final class Parser {
        private final List<Token> tokens = new ArrayList<>();
        private int at = 0;
        private final Told sky = new Told();
        private final Set<String> singles = new HashSet<>();

        Parser(String text) {
            Matcher m = Pattern.compile("[a-z]+|[0-9]+|[^ \n]", Pattern.DOTALL).matcher(text);
            while (m.find()) {
                tokens.add(new Token(m.group(), m.start()));
            }
            tokens.add(new Token("", text.length()));
        }

        Told parse() {
            while (!peek().text.isEmpty()) {
                line();
                expect(";");
            }
            for (int hour = 1; hour < 168; hour++) {
                if (!sky.windHours.contains(hour)) {
                    sky.windX[hour] = sky.windX[hour - 1];
                    sky.windY[hour] = sky.windY[hour - 1];
                }
            }
            return sky;
        }

        private Token peek() {
            return tokens.get(at);
        }

        private Token take() {
            return tokens.get(at++);
        }

        private Fault fault(int kind) {
            return new Fault(kind, peek().place);
        }

        private void expect(String sign) {
            if (!peek().text.equals(sign)) {
                throw fault(1);
            }
            at++;
        }

        private int number(int least, int most) {
            if (!peek().isNumber()) {
                throw fault(1);
            }
            String digits = peek().text;
            if (digits.length() > 4 || Integer.parseInt(digits) < least || Integer.parseInt(digits) > most) {
                throw fault(2);
            }
            return Integer.parseInt(take().text);
        }

        private int signed() {
            if (peek().text.equals("-")) {
                at++;
                return -number(0, 9);
            }
            return number(0, 9);
        }

        private void line() {
            String word = peek().text;
            if (Arrays.asList("church", "gusts", "reach", "light", "push").contains(word) && !singles.add(word)) {
                throw fault(5);
            }
            switch (word) {
                case "isle": isle(0); break;
                case "hill": isle(1); break;
                case "reef": isle(2); break;
                case "wind": wind(); break;
                case "church": at++; church(); break;
                case "gusts": at++; gusts(); break;
                case "reach": at++; sky.reach = number(0, 20); break;
                case "light": at++; sky.light = number(0, 24); break;
                case "push": at++; sky.push = expr(0); break;
                default: throw fault(1);
            }
        }

        private void isle(int kind) {
            if (sky.isles.size() == 6) {
                throw fault(2);
            }
            at++;
            Isle isle = new Isle();
            isle.kind = kind;
            isle.px = number(0, 60);
            isle.py = number(0, 60);
            for (Isle other : sky.isles) {
                if (other.px == isle.px && other.py == isle.py) {
                    at--;
                    throw fault(4);
                }
            }
            isle.rope = number(1, 60);
            isle.lift = number(1, 99);
            isle.size = number(1, 6);
            isle.people = number(0, 20);
            isle.load = number(0, 60);
            isle.goats = number(0, 9);
            for (int i = 0; i < isle.people; i++) {
                isle.sides[i % 4]++;
            }
            sky.isles.add(isle);
        }

        private void wind() {
            if (sky.windHours.size() == 12) {
                throw fault(2);
            }
            at++;
            int hour = number(0, 167);
            if (!sky.windHours.add(hour)) {
                at--;
                throw fault(4);
            }
            sky.windX[hour] = signed();
            sky.windY[hour] = signed();
        }

        private void church() {
            sky.church = Arrays.asList("north", "east", "south", "west").indexOf(peek().text);
            if (sky.church < 0) {
                throw fault(1);
            }
            at++;
        }

        private void gusts() {
            for (int i = 0; i < 4; i++) {
                boolean must = i == 3 && sky.weights[0] + sky.weights[1] + sky.weights[2] == 0;
                sky.weights[i] = number(must ? 1 : 0, 9);
            }
        }

        private Expr expr(int within) {
            if (within == 6) {
                throw fault(peek().isNumber() || peek().isWord() || peek().text.equals("(") ? 2 : 1);
            }
            Expr all = and(within);
            while (peek().text.equals("or")) {
                at++;
                Expr left = all;
                Expr right = and(within);
                all = v -> left.of(v) != 0 | right.of(v) != 0 ? 1 : 0;
            }
            return all;
        }

        private Expr and(int within) {
            Expr all = not(within, 0);
            while (peek().text.equals("and")) {
                at++;
                Expr left = all;
                Expr right = not(within, 0);
                all = v -> left.of(v) != 0 & right.of(v) != 0 ? 1 : 0;
            }
            return all;
        }

        private Expr not(int within, int ahead) {
            if (peek().text.equals("not")) {
                if (ahead == 6) {
                    throw fault(2);
                }
                at++;
                Expr of = not(within, ahead + 1);
                return v -> of.of(v) == 0 ? 1 : 0;
            }
            Expr left = sum(within);
            String sign = peek().text;
            if (sign.equals("<") || sign.equals("=")) {
                at++;
                Expr right = sum(within);
                return sign.equals("<") ? v -> left.of(v) < right.of(v) ? 1 : 0 : v -> left.of(v) == right.of(v) ? 1 : 0;
            }
            return left;
        }

        private Expr sum(int within) {
            Expr all = product(within);
            while (peek().text.equals("+") || peek().text.equals("-")) {
                int way = take().text.equals("+") ? 1 : -1;
                Expr left = all;
                Expr right = product(within);
                all = v -> left.of(v) + way * right.of(v);
            }
            return all;
        }

        private Expr product(int within) {
            Expr all = part(within);
            while (peek().text.equals("*") || peek().text.equals("/")) {
                boolean times = take().text.equals("*");
                Expr left = all;
                Expr right = part(within);
                all = v -> times ? left.of(v) * right.of(v) : right.of(v) == 0 ? 0 : (int) ((long) left.of(v) / right.of(v));
            }
            return all;
        }

        private Expr part(int within) {
            if (peek().text.equals("(")) {
                at++;
                Expr inside = expr(within + 1);
                expect(")");
                return inside;
            }
            if (peek().isWord()) {
                int value = Arrays.asList("lift", "weight", "rope", "knots", "people", "hour", "day", "size")
                        .indexOf(peek().text);
                if (value < 0) {
                    throw fault(3);
                }
                at++;
                return v -> v[value];
            }
            int number = number(0, 9999);
            return v -> number;
        }
    }

    int feed(int a, int b, int c, int d, int e) {
        if (tape.size() > 680) {
            return -1;
        }
        for (int number : new int[] {a, b, c, d, e}) {
            for (int i = 3; i >= 0; i--) {
                tape.add((byte) (number >>> 8 * i));
            }
        }
        return tape.size();
    }

    int sky(int n) {
        if (n < 0 || n > tape.size()) {
            throw new IllegalArgumentException();
        }
        StringBuilder text = new StringBuilder();
        for (int i = 0; i < n; i++) {
            text.append((char) (tape.get(i) & 255));
        }
        tape.clear();
        try {
            told = new Parser(text.toString()).parse();
        } catch (Fault fault) {
            faultPlace = fault.place;
            now.status[0]++;
            return fault.kind;
        }
        faultPlace = -1;
        int[] status = now.status;
        now = new Changing();
        now.status = status;
        now.isles = copyOf(told.isles);
        kept = null;
        ropes = null;
        return 0;
    }

    int fault() {
        return faultPlace;
    }

    // ---- what there is ----

    int count(int what) {
        int[] row = {now.isles.size(), told.windHours.size(), told.church, told.reach, told.light, now.before.size(),
            now.crossings.size(), now.seen.size(), tape.size(), now.status[0], now.status[1], now.status[2]};
        if (what >= 0 && what < 12) {
            return row[what];
        }
        if (what >= 20 && what < 24) {
            return told.weights[what - 20];
        }
        throw new NoSuchElementException();
    }

    int isle(int isle, int what) {
        need(hasIsle(isle) && what >= 0 && what < 16);
        Isle i = now.isles.get(isle);
        int[] row = {i.kind, i.px, i.py, i.rope, i.lift, i.size, i.people, i.load, i.goats, i.knots, i.weight(),
            floats(i) ? 1 : 0, i.sides[0], i.sides[1], i.sides[2], i.sides[3]};
        return row[what];
    }

    int wind(int hour, int what) {
        need(hasHour(hour) && (what == 0 || what == 1));
        return what == 0 ? told.windX[hour] : told.windY[hour];
    }

    private boolean hasIsle(int isle) {
        return isle >= 0 && isle < now.isles.size();
    }

    private static boolean hasHour(int hour) {
        return hour >= 0 && hour < 168;
    }

    private static void need(boolean holds) {
        if (!holds) {
            throw new NoSuchElementException();
        }
    }

    private static void allow(boolean holds) {
        if (!holds) {
            throw new IllegalArgumentException();
        }
    }

    private static boolean isSpan(int from, int to) {
        return hasHour(from) && hasHour(to) && from <= to;
    }

    private static boolean floats(Isle i) {
        return i.lift > i.weight() && i.rope > i.knots;
    }

    private Spot spot(Isle i, int hour, int gust) {
        Spot s = new Spot();
        s.size = i.size;
        s.x = i.px;
        s.y = i.py;
        if (floats(i)) {
            int line = i.rope - i.knots;
            int[] values = {i.lift, i.weight(), i.rope, i.knots, i.people, hour % 24, hour / 24, i.size};
            s.push = told.push == null ? 50 : Math.max(0, Math.min(100, told.push.of(values)));
            s.push = Math.min(100, s.push + 20 * gust);
            s.push = i.kind == 2 ? s.push / 2 : s.push;
            int dx = line * told.windX[hour] * s.push / 900;
            int dy = line * told.windY[hour] * s.push / 900;
            s.x += dx;
            s.y += dy;
            s.high = line - Math.max(Math.abs(dx), Math.abs(dy));
        }
        return s;
    }

    private List<Spot> spots(List<Isle> isles, int hour, int gust) {
        List<Spot> row = new ArrayList<>();
        for (Isle i : isles) {
            row.add(spot(i, hour, gust));
        }
        return row;
    }

    private List<Spot> spots(int hour) {
        return spots(now.isles, hour, 0);
    }

    private static boolean over(Spot a, Spot b, int reach) {
        int far = Math.max(Math.abs(a.x - b.x), Math.abs(a.y - b.y));
        return far <= a.size + b.size + reach;
    }

    private static boolean knocks(Spot a, Spot b) {
        return over(a, b, 0) && Math.abs(a.high - b.high) < 2;
    }

    private static boolean shades(Spot under, Spot above) {
        return over(under, above, 0) && above.high > under.high + 1;
    }

    private boolean bridge(Spot a, Spot b) {
        return over(a, b, told.reach) && Math.abs(a.high - b.high) <= told.reach;
    }

    private static boolean anyKnocks(List<Spot> row) {
        return firstPair(row) >= 0;
    }

    private static int firstPair(List<Spot> row) {
        for (int pair = 0; pair < 60; pair++) {
            int a = pair / 10;
            int b = pair % 10;
            if (a < b && b < row.size() && knocks(row.get(a), row.get(b))) {
                return pair;
            }
        }
        return -1;
    }

    private static int rainOf(List<Spot> row, int isle) {
        int from = -1;
        for (int other = row.size() - 1; other >= 0; other--) {
            if (other != isle && shades(row.get(isle), row.get(other))
                    && (from < 0 || row.get(other).high <= row.get(from).high)) {
                from = other;
            }
        }
        return from;
    }

    int where(int isle, int hour, int what) {
        need(hasIsle(isle) && hasHour(hour) && what >= 0 && what < 5);
        Isle i = now.isles.get(isle);
        Spot s = spot(i, hour, 0);
        boolean church = hour == 6 * 24 + 10 || hour == 6 * 24 + 11;
        int lean = Math.max(Math.abs(i.sides[0] - i.sides[2]), Math.abs(i.sides[1] - i.sides[3]));
        return new int[] {s.x, s.y, s.high, s.push, church ? i.people : lean}[what];
    }

    boolean between(int one, int two, int hour, int what) {
        need(hasIsle(one) && hasIsle(two) && hasHour(hour) && what >= 0 && what < 4);
        allow(one != two);
        Spot a = spots(hour).get(one);
        Spot b = spots(hour).get(two);
        return new boolean[] {over(a, b, 0), knocks(a, b), shades(a, b), bridge(a, b)}[what];
    }

    int rain(int isle, int hour) {
        need(hasIsle(isle) && hasHour(hour));
        return rainOf(spots(hour), isle);
    }

    // ---- acts ----

    private int refuse(int which) {
        now.status[which]++;
        return -1;
    }

    private void act() {
        now.before.add(copyOf(now.isles));
        if (now.before.size() > 40) {
            now.before.remove(0);
        }
    }

    int winch(int isle, int rope) {
        need(hasIsle(isle));
        if (rope < 1 || rope > 60) {
            return refuse(1);
        }
        act();
        int old = now.isles.get(isle).rope;
        now.isles.get(isle).rope = rope;
        return old;
    }

    int knot(int isle, boolean more) {
        need(hasIsle(isle));
        int then = now.isles.get(isle).knots + (more ? 1 : -1);
        if (then < 0 || then > 60) {
            return refuse(1);
        }
        act();
        now.isles.get(isle).knots = then;
        return then;
    }

    int load(int isle, int load) {
        need(hasIsle(isle));
        if (load < 0 || load > 60) {
            return refuse(1);
        }
        act();
        int old = now.isles.get(isle).load;
        now.isles.get(isle).load = load;
        return old;
    }

    boolean goat(int from, int to, int hour) {
        need(hasIsle(from) && hasIsle(to) && hasHour(hour));
        boolean can = from != to && now.isles.get(from).goats > 0 && now.isles.get(to).goats < 9
                && bridge(spots(hour).get(from), spots(hour).get(to));
        if (!can) {
            refuse(1);
            return false;
        }
        act();
        now.isles.get(from).goats--;
        now.isles.get(to).goats++;
        return true;
    }

    int walk(int isle, int from, int to, int people) {
        need(hasIsle(isle));
        int[] sides = now.isles.get(isle).sides;
        boolean can = from >= 0 && from < 4 && to >= 0 && to < 4 && from != to && people > 0 && sides[from] >= people;
        if (!can) {
            return refuse(1);
        }
        act();
        now.isles.get(isle).sides[from] -= people;
        return now.isles.get(isle).sides[to] += people;
    }

    int undo() {
        if (now.before.isEmpty()) {
            return -1;
        }
        now.isles = now.before.remove(now.before.size() - 1);
        return now.before.size();
    }

    // ---- spans ----

    int knock(int from, int to, int what) {
        need(what == 0 || what == 1);
        allow(isSpan(from, to));
        for (int hour = from; hour <= to; hour++) {
            if (anyKnocks(spots(hour))) {
                return what == 0 ? hour : firstPair(spots(hour));
            }
        }
        return -1;
    }

    int shade(int isle, int from, int to) {
        need(hasIsle(isle));
        allow(isSpan(from, to));
        int hours = 0;
        for (int hour = from; hour <= to; hour++) {
            List<Spot> row = spots(hour);
            boolean dark = false;
            for (int other = 0; other < row.size(); other++) {
                dark |= other != isle && shades(row.get(isle), row.get(other));
            }
            hours += dark ? 1 : 0;
        }
        return hours;
    }

    int wet(int isle, int from, int to) {
        need(hasIsle(isle));
        allow(isSpan(from, to));
        int best = -1;
        int most = 0;
        for (int other = 0; other < now.isles.size(); other++) {
            int hours = 0;
            for (int hour = from; hour <= to; hour++) {
                hours += rain(isle, hour) == other ? 1 : 0;
            }
            if (hours > most) {
                most = hours;
                best = other;
            }
        }
        return best;
    }

    int winds(int one, int two, int from, int to) {
        need(hasIsle(one) && hasIsle(two));
        allow(isSpan(from, to) && one != two);
        int turns = 0;
        for (int hour = from + 1; hour <= to; hour++) {
            boolean ahead = where(two, hour - 1, 0) < where(one, hour - 1, 0);
            boolean here = where(two, hour, 0) < where(one, hour, 0);
            boolean south = where(two, hour, 1) > where(one, hour, 1);
            if (south && ahead && !here) {
                turns--;
            }
            if (south && !ahead && here) {
                turns++;
            }
        }
        return turns;
    }

    // ---- winching and ways ----

    int least(int from, int to, int n, boolean light) {
        allow(isSpan(from, to) && to - from < 24 && n >= 0 && n <= 4);
        if (now.isles.size() > 4) {
            return -2;
        }
        for (int yards = 0; yards <= 4 * n; yards++) {
            int[] row = firstRow(copyOf(now.isles), 0, yards, new int[] {from, to, n}, light);
            if (row != null) {
                ropes = row;
                return yards;
            }
        }
        return -1;
    }

    private int[] firstRow(List<Isle> isles, int isle, int left, int[] bounds, boolean light) {
        if (isle == isles.size()) {
            return left == 0 && isQuiet(isles, bounds[0], bounds[1], light)
                    ? isles.stream().mapToInt(i -> i.rope).toArray() : null;
        }
        int old = isles.get(isle).rope;
        for (int rope = Math.max(1, old - bounds[2]); rope <= Math.min(60, old + bounds[2]); rope++) {
            if (Math.abs(rope - old) <= left) {
                isles.get(isle).rope = rope;
                int[] found = firstRow(isles, isle + 1, left - Math.abs(rope - old), bounds, light);
                if (found != null) {
                    return found;
                }
            }
        }
        isles.get(isle).rope = old;
        return null;
    }

    private boolean isQuiet(List<Isle> isles, int from, int to, boolean light) {
        int[] dark = new int[isles.size()];
        for (int hour = from; hour <= to; hour++) {
            List<Spot> row = spots(isles, hour, 0);
            if (!light && anyKnocks(row)) {
                return false;
            }
            for (int isle = 0; isle < dark.length; isle++) {
                dark[isle] += rainOf(row, isle) >= 0 ? 1 : 0;
                if (light && dark[isle] > told.light) {
                    return false;
                }
            }
        }
        return true;
    }

    int rope(int isle) {
        need(hasIsle(isle) && ropes != null);
        return ropes[isle];
    }

    int way(int from, int to, int hour, int what) {
        need(hasIsle(from) && hasIsle(to) && hasHour(hour) && (what == 0 || what == 1));
        int[] fewest = new int[now.isles.size()];
        Arrays.fill(fewest, 1000000);
        fewest[from] = 0;
        for (int then = hour; then < 168; then++) {
            List<Spot> row = spots(then);
            for (boolean changed = true; changed;) {
                changed = false;
                for (int a = 0; a < fewest.length; a++) {
                    for (int b = 0; b < fewest.length; b++) {
                        if (a != b && bridge(row.get(a), row.get(b)) && fewest[a] + 1 < fewest[b]) {
                            fewest[b] = fewest[a] + 1;
                            changed = true;
                        }
                    }
                }
            }
            if (fewest[to] < 1000000) {
                return what == 0 ? then : fewest[to];
            }
        }
        return -1;
    }

    // ---- crossings ----

    int cross(int place, boolean over) {
        if (now.crossings.size() == 40 || place < 0 || place > now.isles.size() - 2) {
            return refuse(2);
        }
        now.crossings.add(new int[] {place, over ? 1 : 0});
        return now.crossings.size();
    }

    int uncross() {
        if (now.crossings.isEmpty()) {
            return -1;
        }
        now.crossings.remove(now.crossings.size() - 1);
        return now.crossings.size();
    }

    private List<int[]> left() {
        List<int[]> row = new ArrayList<>(now.crossings);
        for (int i = 0; i + 1 < row.size(); i++) {
            if (row.get(i)[0] == row.get(i + 1)[0] && row.get(i)[1] != row.get(i + 1)[1]) {
                row.remove(i + 1);
                row.remove(i);
                i = -1;
            }
        }
        return row;
    }

    int freed(int i) {
        List<int[]> row = left();
        need(i >= -1 && i < row.size());
        return i == -1 ? row.size() : row.get(i)[0] + 10 * row.get(i)[1];
    }

    int tangle(int isle, int what) {
        need(hasIsle(isle) && (what == 0 || what == 1));
        List<Integer> ropesByPlace = new ArrayList<>();
        for (int i = 0; i < now.isles.size(); i++) {
            ropesByPlace.add(i);
        }
        for (int[] c : now.crossings) {
            ropesByPlace.add(c[0], ropesByPlace.remove(c[0] + 1));
        }
        if (what == 0) {
            return ropesByPlace.indexOf(isle);
        }
        for (int i = 0; i < ropesByPlace.size(); i++) {
            if (ropesByPlace.get(i) != i) {
                return 0;
            }
        }
        return left().size();
    }

    // ---- what was seen ----

    int see(int isle, int hour, int high) {
        need(hasIsle(isle) && hasHour(hour));
        if (now.seen.size() == 12 || high < 0 || high > 60) {
            return refuse(2);
        }
        now.seen.add(new int[] {isle, hour, high});
        return now.seen.size();
    }

    int fits(int what) {
        need(what == 0 || what == 1);
        List<Integer> found = new ArrayList<>();
        for (int answer = 0; answer < 60; answer++) {
            int isle = answer / 10;
            int yards = answer % 10;
            if (yards == 0 || isle >= now.isles.size() || now.isles.get(isle).rope + yards > 60) {
                continue;
            }
            List<Isle> isles = copyOf(now.isles);
            isles.get(isle).rope += yards;
            boolean all = true;
            for (int[] s : now.seen) {
                all &= spots(isles, s[1], 0).get(s[0]).high == s[2];
            }
            if (all) {
                found.add(answer);
            }
        }
        return what == 0 ? found.size() : found.isEmpty() ? -1 : found.get(0);
    }

    int weighed(int isle, int hour, int high, int what) {
        need(hasIsle(isle) && hasHour(hour) && (what == 0 || what == 1));
        List<Integer> found = new ArrayList<>();
        for (int load = 0; load <= 60; load++) {
            Isle i = now.isles.get(isle).copy();
            i.load = load;
            if (spot(i, hour, 0).high == high) {
                found.add(load);
            }
        }
        return what == 0 ? found.size() : found.isEmpty() ? -1 : found.get(0);
    }

    // ---- gusts ----

    private long fraction(BigInteger upper, BigInteger lower, int what) {
        BigInteger by = upper.gcd(lower);
        return (what == 0 ? upper : lower).divide(by).longValueExact();
    }

    int gust(int hour, int what) {
        need(hasHour(hour) && (what == 0 || what == 1));
        int upper = 0;
        int lower = 0;
        for (int s = 0; s < 4; s++) {
            lower += told.weights[s];
            upper += anyKnocks(spots(now.isles, hour, s)) ? told.weights[s] : 0;
        }
        return (int) fraction(BigInteger.valueOf(upper), BigInteger.valueOf(lower), what);
    }

    long calm(int from, int to, int what) {
        need(what == 0 || what == 1);
        allow(isSpan(from, to) && to - from < 8);
        BigInteger[] sum = {BigInteger.ZERO, BigInteger.ZERO};
        boolean[][] knocking = new boolean[8][4];
        for (int i = 0; i <= to - from; i++) {
            for (int s = 0; s < 4; s++) {
                knocking[i][s] = anyKnocks(spots(now.isles, from + i, s));
            }
        }
        all(knocking, 0, to - from + 1, 1L, true, sum);
        return fraction(sum[0], sum[1], what);
    }

    private void all(boolean[][] knocking, int i, int end, long weight, boolean calm, BigInteger[] sum) {
        if (i == end) {
            sum[1] = sum[1].add(BigInteger.valueOf(weight));
            sum[0] = calm ? sum[0].add(BigInteger.valueOf(weight)) : sum[0];
            return;
        }
        for (int s = 0; s < 4; s++) {
            if (told.weights[s] > 0) {
                all(knocking, i + 1, end, weight * told.weights[s], calm && !knocking[i][s], sum);
            }
        }
    }

    // ---- views, debts, weeks, the image ----

    private int lower(List<Isle> isles, int isle, int hour) {
        int own = spots(isles, hour, 0).get(isle).high;
        return (int) spots(isles, hour, 0).stream().filter(s -> s.high < own).count();
    }

    int view(int isle, int hour, int what) {
        need(hasIsle(isle) && hasHour(hour) && what >= 0 && what < 3);
        if (what == 0) {
            return lower(now.isles, isle, hour);
        }
        int best = -1;
        int yards = -1;
        List<Isle> isles = copyOf(now.isles);
        for (int more = 0; now.isles.get(isle).rope + more <= 60; more++) {
            isles.get(isle).rope = now.isles.get(isle).rope + more;
            int view = lower(isles, isle, hour);
            if (view > best) {
                best = view;
                yards = more;
            }
        }
        return what == 1 ? yards : best;
    }

    int debt(int one, int other, int from, int to) {
        need(hasIsle(one) && hasIsle(other));
        allow(isSpan(from, to) && one != other);
        int left = 0;
        for (int hour = from; hour <= to; hour++) {
            left += rain(one, hour) == other ? 1 : 0;
            left -= rain(other, hour) == one ? 1 : 0;
        }
        return Math.max(0, left);
    }

    int rich(int from, int to) {
        allow(isSpan(from, to));
        int best = -1;
        int most = 0;
        for (int one = 0; one < now.isles.size(); one++) {
            int all = 0;
            for (int other = 0; other < now.isles.size(); other++) {
                all += one == other ? 0 : debt(other, one, from, to);
            }
            if (all > most) {
                most = all;
                best = one;
            }
        }
        return best;
    }

    int week(int seed, int isle) {
        need(isle == -1 || hasIsle(isle));
        List<Isle> isles = copyOf(now.isles);
        int hours = 0;
        Deque<Integer> draws = new ArrayDeque<>();
        int s = seed;
        for (int i = 0; i < 14; i++) {
            s = s * 1103515245 + 12345;
            draws.add(s >>> 16 & 0x7fff);
        }
        for (int day = 0; day < 7 && !isles.isEmpty(); day++) {
            Isle drawn = isles.get(draws.remove() % isles.size());
            drawn.rope = Math.min(60, drawn.rope + 1 + draws.remove() % 9);
            for (int hour = 24 * day; hour < 24 * day + 24; hour++) {
                hours += anyKnocks(spots(isles, hour, 0)) ? 1 : 0;
            }
        }
        return isle == -1 ? hours : isles.get(isle).rope;
    }

    void image() {
        kept = now.copy();
    }

    boolean restore() {
        if (kept == null) {
            return false;
        }
        now = kept.copy();
        return true;
    }
}
