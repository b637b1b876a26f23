import java.util.NoSuchElementException;
import java.util.Random;
import java.util.function.Function;

/** Random runs of calls on TetherSky and on Model: both answer the same. The seeds are fixed. */
public final class ModelTest {
    private static final int RUNS = 1400;
    /** An object answers at most 512 calls as promised: a text and the counts at the end still come behind these. */
    private static final int CALLS = 440;
    private static final String[] VALUES = {"lift", "weight", "rope", "knots", "people", "hour", "day", "size"};
    private static final String[] WORDS = {"isle", "hill", "reef", "wind", "church", "gusts", "reach", "light", "push",
        "north", "west", "or", "and", "not", "lift", "day", "foo", "12345", "0", "7", "61", "9999", ";", "(", ")", "+",
        "-", "*", "/", "<", "=", "#", "-1", "A", "\t", "((((((", "not not not not not not"};

    private final Random random;
    private final TetherSky sky = new TetherSky();
    private final Model model = new Model();
    private int isles = 0;
    private int calls = 0;

    private ModelTest(long seed) {
        random = new Random(seed);
    }

    public static void main(String[] args) {
        for (int run = 0; run < RUNS; run++) {
            new ModelTest(run).run(run);
        }
        Check.finish();
    }

    private void run(int run) {
        while (calls < CALLS) {
            if (calls == 0 || random.nextInt(60) == 0) {
                text(run);
            }
            call(run);
        }
        for (int what = 0; what < 24; what++) {
            int w = what;
            both(run, "count(" + w + ")", x -> (long) x.count(w), m -> (long) m.count(w));
        }
    }

    private void both(int run, String call, Function<TetherSky, Long> ours, Function<Model, Long> due) {
        calls++;
        Check.same("run " + run + ": " + call, answer(ours, sky), answer(due, model));
    }

    /** An exception is told by a number that no call answers. */
    private static <T> long answer(Function<T, Long> call, T of) {
        try {
            return call.apply(of);
        } catch (NoSuchElementException e) {
            return Long.MIN_VALUE;
        } catch (IllegalArgumentException e) {
            return Long.MIN_VALUE + 1;
        }
    }

    // ---- texts ----

    private int below(int n) {
        return random.nextInt(n);
    }

    private void text(int run) {
        StringBuilder text = new StringBuilder(skyText());
        if (below(3) == 0) {
            spoil(text);
        }
        text.setLength(Math.min(text.length(), 700));
        int n = text.length();
        while (text.length() % 20 != 0) {
            text.append(' ');
        }
        for (int i = 0; i < text.length(); i += 20) {
            int[] row = new int[5];
            for (int k = 0; k < 20; k++) {
                row[k / 4] = row[k / 4] << 8 | text.charAt(i + k);
            }
            both(run, "feed", x -> (long) x.feed(row[0], row[1], row[2], row[3], row[4]),
                    m -> (long) m.feed(row[0], row[1], row[2], row[3], row[4]));
        }
        both(run, "sky of [" + text + "]", x -> (long) x.sky(n), m -> (long) m.sky(n));
        both(run, "fault of [" + text + "]", x -> (long) x.fault(), m -> (long) m.fault());
        isles = model.count(0);
    }

    private void spoil(StringBuilder text) {
        for (int i = below(2); i >= 0 && text.length() > 0; i--) {
            int at = below(text.length());
            String put = below(4) == 0 ? String.valueOf((char) below(256)) : " " + WORDS[below(WORDS.length)] + " ";
            text.replace(at, Math.min(text.length(), at + below(4)), below(4) == 0 ? "" : put);
        }
    }

    private String skyText() {
        StringBuilder text = new StringBuilder();
        int many = below(below(3) == 0 ? 8 : 5);
        int near = 4 + below(25);
        for (int i = 0; i < many; i++) {
            text.append(new String[] {"isle", "hill", "reef"}[below(3)]);
            int[] row = {below(near), below(near), 1 + below(below(2) == 0 ? 60 : 12), 1 + below(99), 1 + below(6),
                below(21), below(below(2) == 0 ? 60 : 5), below(10)};
            for (int number : row) {
                text.append(' ').append(number);
            }
            text.append(";");
        }
        for (int i = below(below(5) == 0 ? 14 : 7); i > 0; i--) {
            text.append("wind ").append(below(below(2) == 0 ? 168 : 24));
            text.append(" ").append(below(19) - 9).append(below(2) == 0 ? " " : "\n").append(below(19) - 9).append(";");
        }
        addSingles(text);
        return text.toString();
    }

    private void addSingles(StringBuilder text) {
        if (below(2) == 0) {
            text.append("church ").append(new String[] {"north", "east", "south", "west"}[below(4)]).append(";");
        }
        if (below(3) > 0) {
            text.append("gusts ").append(below(10)).append(" ").append(below(10)).append(" ").append(below(4))
                    .append(" ").append(below(4)).append(" ;");
        }
        if (below(2) == 0) {
            text.append("reach ").append(below(21)).append(";");
        }
        if (below(2) == 0) {
            text.append("light ").append(below(25)).append(";");
        }
        if (below(3) > 0) {
            text.append("push ").append(rule(0)).append(";");
        }
    }

    private String rule(int depth) {
        if (depth > 4 || below(4) == 0) {
            return below(2) == 0 ? VALUES[below(8)] : String.valueOf(below(below(3) == 0 ? 10000 : 100));
        }
        String one = rule(depth + 1);
        String two = rule(depth + 1);
        switch (below(9)) {
            case 0: return one + "+" + two;
            case 1: return one + " - " + two;
            case 2: return one + "*" + two;
            case 3: return one + "/" + two;
            case 4: return "(" + one + "<" + two + ")";
            case 5: return "(" + one + "=" + two + ")*" + below(101);
            case 6: return "(" + one + " or " + two + ")";
            case 7: return "(" + one + " and not " + two + ")";
            default: return "(" + one + ")";
        }
    }

    // ---- calls ----

    /** Numbers far from all that can be. */
    private int extreme() {
        int[] row = {Integer.MIN_VALUE, Integer.MIN_VALUE + 1, -1000, 1000, 65536, Integer.MAX_VALUE - 1, Integer.MAX_VALUE};
        return row[below(row.length)];
    }

    private int isle() {
        if (below(300) == 0) {
            return extreme();
        }
        return below(40) == 0 ? below(9) - 1 : below(Math.max(isles, 1));
    }

    private int hour() {
        if (below(300) == 0) {
            return extreme();
        }
        return below(60) == 0 ? below(172) - 2 : below(below(2) == 0 ? 168 : 24);
    }

    private int what(int many) {
        if (below(200) == 0) {
            return extreme();
        }
        return below(30) == 0 ? below(many + 4) - 2 : below(many);
    }

    private int to(int from, int most) {
        if (below(200) == 0) {
            return extreme();
        }
        return below(30) == 0 ? below(170) : Math.min(167, from + below(most + 1));
    }

    private void call(int run) {
        switch (below(4)) {
            case 0: look(run); break;
            case 1: act(run); break;
            case 2: span(run); break;
            default: other(run); break;
        }
    }

    private void look(int run) {
        int a = isle();
        int b = isle();
        int h = hour();
        switch (below(7)) {
            case 0: {
                int w = below(40) == 0 ? below(30) - 3 : below(2) == 0 ? below(12) : 20 + below(4);
                both(run, "count(" + w + ")", x -> (long) x.count(w), m -> (long) m.count(w));
                break;
            }
            case 1: {
                int w = what(16);
                both(run, "isle", x -> (long) x.isle(a, w), m -> (long) m.isle(a, w));
                break;
            }
            case 2: {
                int w = what(2);
                both(run, "wind", x -> (long) x.wind(h, w), m -> (long) m.wind(h, w));
                break;
            }
            case 3: {
                int w = what(5);
                int then = below(5) == 0 ? 153 + below(4) : h;
                both(run, "where", x -> (long) x.where(a, then, w), m -> (long) m.where(a, then, w));
                break;
            }
            case 4: {
                int w = what(4);
                both(run, "between", x -> x.between(a, b, h, w) ? 1L : 0L, m -> m.between(a, b, h, w) ? 1L : 0L);
                break;
            }
            case 5: both(run, "rain", x -> (long) x.rain(a, h), m -> (long) m.rain(a, h)); break;
            default: {
                int w = what(3);
                both(run, "view", x -> (long) x.view(a, h, w), m -> (long) m.view(a, h, w));
                break;
            }
        }
    }

    private void act(int run) {
        int a = isle();
        int b = isle();
        int h = hour();
        boolean more = below(3) > 0;
        switch (below(9)) {
            case 0: {
                int rope = below(100) == 0 ? extreme() : below(64) - 1;
                both(run, "winch", x -> (long) x.winch(a, rope), m -> (long) m.winch(a, rope));
                break;
            }
            case 1: both(run, "knot", x -> (long) x.knot(a, more), m -> (long) m.knot(a, more)); break;
            case 2: {
                int load = below(100) == 0 ? extreme() : below(3) == 0 ? below(64) - 1 : below(9);
                both(run, "load", x -> (long) x.load(a, load), m -> (long) m.load(a, load));
                break;
            }
            case 3: both(run, "goat", x -> x.goat(a, b, h) ? 1L : 0L, m -> m.goat(a, b, h) ? 1L : 0L); break;
            case 4: {
                int from = what(4);
                int to = what(4);
                int people = below(50) == 0 ? extreme() : below(6) - 1;
                both(run, "walk", x -> (long) x.walk(a, from, to, people), m -> (long) m.walk(a, from, to, people));
                break;
            }
            case 5: both(run, "undo", x -> (long) x.undo(), m -> (long) m.undo()); break;
            case 6: {
                int place = what(Math.max(isles - 1, 1));
                both(run, "cross", x -> (long) x.cross(place, more), m -> (long) m.cross(place, more));
                break;
            }
            case 7: both(run, "uncross", x -> (long) x.uncross(), m -> (long) m.uncross()); break;
            default: image(run); break;
        }
    }

    private void image(int run) {
        if (below(3) == 0) {
            calls++;
            sky.image();
            model.image();
        } else if (below(4) == 0) {
            both(run, "restore", x -> x.restore() ? 1L : 0L, m -> m.restore() ? 1L : 0L);
        }
    }

    private void span(int run) {
        int a = isle();
        int b = isle();
        int from = hour();
        int to = to(from, 167);
        int w = what(2);
        switch (below(8)) {
            case 0: both(run, "knock", x -> (long) x.knock(from, to, w), m -> (long) m.knock(from, to, w)); break;
            case 1: both(run, "shade", x -> (long) x.shade(a, from, to), m -> (long) m.shade(a, from, to)); break;
            case 2: both(run, "wet", x -> (long) x.wet(a, from, to), m -> (long) m.wet(a, from, to)); break;
            case 3: both(run, "winds", x -> (long) x.winds(a, b, from, to), m -> (long) m.winds(a, b, from, to)); break;
            case 4: winching(run, from); break;
            case 5: both(run, "debt", x -> (long) x.debt(a, b, from, to), m -> (long) m.debt(a, b, from, to)); break;
            case 6: both(run, "rich", x -> (long) x.rich(from, to), m -> (long) m.rich(from, to)); break;
            default: {
                int near = to(from, 8);
                both(run, "calm", x -> x.calm(from, near, w), m -> m.calm(from, near, w));
                break;
            }
        }
    }

    private void winching(int run, int from) {
        int n = isles < 4 || below(10) == 0 ? what(5) : what(3);
        int to = to(from, 24);
        boolean light = below(2) == 0;
        both(run, "least", x -> (long) x.least(from, to, n, light), m -> (long) m.least(from, to, n, light));
        for (int isle = 0; isle < 4; isle++) {
            int i = isle;
            both(run, "rope", x -> (long) x.rope(i), m -> (long) m.rope(i));
        }
    }

    private void other(int run) {
        int a = isle();
        int b = isle();
        int h = hour();
        int w = what(2);
        switch (below(8)) {
            case 0: both(run, "way", x -> (long) x.way(a, b, h, w), m -> (long) m.way(a, b, h, w)); break;
            case 1: {
                int i = below(100) == 0 ? extreme() : below(6) - 2;
                both(run, "freed", x -> (long) x.freed(i), m -> (long) m.freed(i));
                break;
            }
            case 2: both(run, "tangle", x -> (long) x.tangle(a, w), m -> (long) m.tangle(a, w)); break;
            case 3: seen(run, a, h); break;
            case 4: both(run, "fits", x -> (long) x.fits(w), m -> (long) m.fits(w)); break;
            case 5: {
                int high = below(100) == 0 ? extreme() : below(3) > 0 ? high(a, h) : below(63) - 1;
                both(run, "weighed", x -> (long) x.weighed(a, h, high, w), m -> (long) m.weighed(a, h, high, w));
                break;
            }
            case 6: both(run, "gust", x -> (long) x.gust(h, w), m -> (long) m.gust(h, w)); break;
            default: {
                int seed = random.nextInt();
                int i = below(2) == 0 ? -1 : isle();
                both(run, "week", x -> (long) x.week(seed, i), m -> (long) m.week(seed, i));
                break;
            }
        }
    }

    private void seen(int run, int isle, int hour) {
        int high = below(100) == 0 ? extreme() : below(10) == 0 ? below(64) - 1 : high(isle, hour) + below(2);
        both(run, "see", x -> (long) x.see(isle, hour, high), m -> (long) m.see(isle, hour, high));
    }

    private int high(int isle, int hour) {
        return (int) Math.max(0, answer(m -> (long) m.where(isle, hour, 2), model));
    }
}
