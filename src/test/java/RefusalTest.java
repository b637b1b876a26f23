import java.util.ArrayList;
import java.util.List;

/**
 * What calls refuse, and that nothing else changes then: each refused call is made on an object of its own, and all
 * that can be told of it is set beside an object on which it was not made.
 */
public final class RefusalTest {
    private static final int LEAST = Integer.MIN_VALUE;
    private static final int MOST = Integer.MAX_VALUE;
    private static final int NO_STATUS = -1;
    private static final int ISLES = 3;
    private static final int[] NO_ISLES = {-1, ISLES, LEAST, MOST};
    private static final int[] NO_HOURS = {-1, 168, LEAST, MOST};
    private static final int[][] NO_SPANS = {{5, 4}, {167, 0}, {-1, 4}, {-1, -1}, {0, 168}, {168, 168}, {169, 170},
        {165, 172}, {LEAST, MOST}, {MOST, LEAST}, {LEAST, 0}, {LEAST, LEAST}, {0, MOST}, {MOST, MOST}};

    interface Asked {
        long of(TetherSky x, int[] a);
    }

    /** A call, by what its numbers are: i an isle, h an hour, s and t a span, w a what, v any number. */
    private static final class Row {
        final String name;
        final String kinds;
        final int whats;
        final int[] good;
        final Asked asked;

        Row(String name, String kinds, int whats, int[] good, Asked asked) {
            this.name = name;
            this.kinds = kinds;
            this.whats = whats;
            this.good = good;
            this.asked = asked;
        }
    }

    private static final List<Row> ROWS = new ArrayList<>();
    private static long[] untouched;

    public static void main(String[] args) {
        tellRows();
        untouched = Whole.of(full());
        fullIsFull();
        readersChangeNothing();
        noSuchIsle();
        noSuchHour();
        noSuchWhat();
        noSuchSpan();
        whatIsToldAheadOfSpans();
        bothAreOne();
        counts();
        freedOnes();
        ropes();
        weeks();
        skies();
        winchings();
        calms();
        refusedActs();
        refusedGoats();
        refusedWalks();
        refusedCrossings();
        refusedSights();
        noneWithoutStatus();
        fullTape();
        faultyText();
        Check.finish();
    }

    private static void tell(String name, String kinds, int whats, int[] good, Asked asked) {
        ROWS.add(new Row(name, kinds, whats, good, asked));
    }

    private static int[] of(int... numbers) {
        return numbers;
    }

    private static void tellRows() {
        tell("isle", "iw", 16, of(0, 0), (x, a) -> x.isle(a[0], a[1]));
        tell("wind", "hw", 2, of(0, 0), (x, a) -> x.wind(a[0], a[1]));
        tell("where", "ihw", 5, of(0, 0, 0), (x, a) -> x.where(a[0], a[1], a[2]));
        tell("between", "iihw", 4, of(0, 1, 0, 0), (x, a) -> x.between(a[0], a[1], a[2], a[3]) ? 1 : 0);
        tell("rain", "ih", 0, of(0, 0), (x, a) -> x.rain(a[0], a[1]));
        tell("winch", "iv", 0, of(0, 30), (x, a) -> x.winch(a[0], a[1]));
        tell("winch", "iv", 0, of(0, 0), (x, a) -> x.winch(a[0], a[1]));
        tell("knot", "i", 0, of(0), (x, a) -> x.knot(a[0], true));
        tell("knot", "i", 0, of(2), (x, a) -> x.knot(a[0], false));
        tell("load", "iv", 0, of(0, 30), (x, a) -> x.load(a[0], a[1]));
        tell("load", "iv", 0, of(0, 61), (x, a) -> x.load(a[0], a[1]));
        tell("goat", "iih", 0, of(0, 1, 0), (x, a) -> x.goat(a[0], a[1], a[2]) ? 1 : 0);
        tell("goat", "iih", 0, of(1, 1, 0), (x, a) -> x.goat(a[0], a[1], a[2]) ? 1 : 0);
        tell("walk", "ivvv", 0, of(0, 1, 2, 1), (x, a) -> x.walk(a[0], a[1], a[2], a[3]));
        tell("walk", "ivvv", 0, of(0, 4, 4, 0), (x, a) -> x.walk(a[0], a[1], a[2], a[3]));
        tell("knock", "stw", 2, of(0, 9, 0), (x, a) -> x.knock(a[0], a[1], a[2]));
        tell("shade", "ist", 0, of(0, 0, 9), (x, a) -> x.shade(a[0], a[1], a[2]));
        tell("wet", "ist", 0, of(0, 0, 9), (x, a) -> x.wet(a[0], a[1], a[2]));
        tell("winds", "iist", 0, of(0, 1, 0, 9), (x, a) -> x.winds(a[0], a[1], a[2], a[3]));
        tell("least", "st", 0, of(0, 9), (x, a) -> x.least(a[0], a[1], 1, false));
        tell("least for light", "st", 0, of(0, 9), (x, a) -> x.least(a[0], a[1], 1, true));
        tell("rope", "i", 0, of(0), (x, a) -> x.rope(a[0]));
        tell("way", "iihw", 2, of(0, 1, 0, 0), (x, a) -> x.way(a[0], a[1], a[2], a[3]));
        tell("tangle", "iw", 2, of(0, 0), (x, a) -> x.tangle(a[0], a[1]));
        tell("see", "ihv", 0, of(0, 0, 20), (x, a) -> x.see(a[0], a[1], a[2]));
        tell("see", "ihv", 0, of(0, 0, 61), (x, a) -> x.see(a[0], a[1], a[2]));
        tell("fits", "w", 2, of(0), (x, a) -> x.fits(a[0]));
        tell("weighed", "ihvw", 2, of(0, 0, 20, 0), (x, a) -> x.weighed(a[0], a[1], a[2], a[3]));
        tell("gust", "hw", 2, of(0, 0), (x, a) -> x.gust(a[0], a[1]));
        tell("calm", "stw", 2, of(0, 7, 0), (x, a) -> x.calm(a[0], a[1], a[2]));
        tell("view", "ihw", 3, of(0, 0, 0), (x, a) -> x.view(a[0], a[1], a[2]));
        tell("debt", "iist", 0, of(0, 1, 0, 9), (x, a) -> x.debt(a[0], a[1], a[2], a[3]));
        tell("rich", "st", 0, of(0, 9), (x, a) -> x.rich(a[0], a[1]));
        tell("week", "v", 0, of(5), (x, a) -> x.week(a[0], -1));
    }

    /** Some of all that there can be: acts, an image and acts behind it, crossings, what is seen, rows, each STATUS. */
    private static TetherSky full() {
        TetherSky x = fullWithoutTape();
        Check.feed(x, "reach 2;");
        return x;
    }

    private static TetherSky fullWithoutTape() {
        TetherSky x = Check.under("isle 10 10 20 50 2 6 4 1;hill 14 10 10 40 2 4 2 0;reef 10 16 9 40 1 0 0 9;"
                + "wind 3 9 -2;reach 9;light 3;gusts 1 2 0 3;church east;push 40+knots;");
        x.winch(1, 12);
        x.knot(0, true);
        x.walk(0, 0, 1, 1);
        x.least(0, 1, 0, true);
        x.cross(0, true);
        x.cross(1, false);
        x.see(0, 0, 20);
        Check.feed(x, "x");
        x.sky(1);
        x.winch(0, 0);
        x.cross(9, true);
        x.image();
        x.winch(2, 12);
        x.knot(1, true);
        x.cross(0, false);
        return x;
    }

    private static void fullIsFull() {
        TetherSky x = full();
        int[] due = {3, 1, 1, 9, 3, 5, 3, 1, 20, 1, 1, 1};
        for (int what = 0; what < due.length; what++) {
            Check.same("count(" + what + ")", x.count(what), due[what]);
        }
        Check.same("fault", x.fault(), 0);
        Check.same("rope 2 by what is kept", x.rope(2), 9);
        Check.same("fits", x.fits(0) * 100 + x.fits(1), 101);
        Check.same("restore", x.restore(), true);
        Check.same("acts of the image", x.count(5), 3);
    }

    // ---- how a refused call is looked at ----

    private static void unchanged(String name, Asked asked, int[] a) {
        TetherSky x = full();
        asked.of(x, a);
        Check.sameRow(name + " changes nothing", Whole.of(x), untouched);
    }

    private static void noSuch(String name, Asked asked, int... a) {
        TetherSky x = full();
        Check.noSuch(shown(name, a), () -> asked.of(x, a));
        Check.sameRow(shown(name, a) + " changes nothing", Whole.of(x), untouched);
    }

    private static void illegal(String name, Asked asked, int... a) {
        TetherSky x = full();
        Check.illegal(shown(name, a), () -> asked.of(x, a));
        Check.sameRow(shown(name, a) + " changes nothing", Whole.of(x), untouched);
    }

    /** An answer that tells the refusal, and the status that counts it. */
    private static void refused(String name, int status, long due, Asked asked, int... a) {
        TetherSky x = full();
        Check.same(shown(name, a), asked.of(x, a), due);
        long[] row = untouched.clone();
        if (status != NO_STATUS) {
            row[Whole.STATUS + status]++;
        }
        Check.sameRow(shown(name, a) + " changes nothing but STATUS", Whole.of(x), row);
    }

    private static String shown(String name, int[] a) {
        StringBuilder text = new StringBuilder(name);
        for (int number : a) {
            text.append(' ').append(number);
        }
        return text.toString();
    }

    private static int[] with(int[] good, int at, int number) {
        int[] a = good.clone();
        a[at] = number;
        return a;
    }

    private static void eachBad(Row row, char kind, int[] bad) {
        for (int at = 0; at < row.kinds.length(); at++) {
            for (int i = 0; i < bad.length && row.kinds.charAt(at) == kind; i++) {
                noSuch(row.name, row.asked, with(row.good, at, bad[i]));
            }
        }
    }

    // ---- no such thing ----

    private static void readersChangeNothing() {
        String acts = "winch knot load goat walk see least least for light";
        for (Row row : ROWS) {
            if (!acts.contains(row.name)) {
                unchanged(row.name, row.asked, row.good);
            }
        }
        unchanged("freed", (x, a) -> x.freed(0), of());
        unchanged("count", (x, a) -> x.count(5), of());
        unchanged("fault", (x, a) -> x.fault(), of());
    }

    /** "no such ISLE (as everywhere)" */
    private static void noSuchIsle() {
        for (Row row : ROWS) {
            eachBad(row, 'i', NO_ISLES);
        }
    }

    /** "no such HOUR (0 to 167, as everywhere)" */
    private static void noSuchHour() {
        for (Row row : ROWS) {
            eachBad(row, 'h', NO_HOURS);
        }
    }

    /** "also another what" */
    private static void noSuchWhat() {
        for (Row row : ROWS) {
            eachBad(row, 'w', of(-1, row.whats, row.whats + 1, LEAST, MOST));
        }
    }

    /** "no such SPAN (as everywhere)": from one to another one, both of 0 to 167. */
    private static void noSuchSpan() {
        for (Row row : ROWS) {
            int at = row.kinds.indexOf("st");
            for (int i = 0; i < NO_SPANS.length && at >= 0; i++) {
                illegal(row.name, row.asked, with(with(row.good, at, NO_SPANS[i][0]), at + 1, NO_SPANS[i][1]));
            }
        }
    }

    /** "IllegalArgumentException (behind that)" */
    private static void whatIsToldAheadOfSpans() {
        for (Row row : ROWS) {
            int span = row.kinds.indexOf("st");
            for (int at = 0; at < row.kinds.length() && span >= 0; at++) {
                int[] bad = with(with(row.good, span, 5), span + 1, 4);
                if (row.kinds.charAt(at) == 'i') {
                    noSuch(row.name, row.asked, with(bad, at, ISLES));
                } else if (row.kinds.charAt(at) == 'w') {
                    noSuch(row.name, row.asked, with(bad, at, row.whats));
                }
            }
        }
    }

    /** "both are one" */
    private static void bothAreOne() {
        Asked between = (x, a) -> x.between(a[0], a[1], a[2], a[3]) ? 1 : 0;
        Asked winds = (x, a) -> x.winds(a[0], a[1], a[2], a[3]);
        Asked debt = (x, a) -> x.debt(a[0], a[1], a[2], a[3]);
        for (int isle = 0; isle < ISLES; isle++) {
            illegal("between", between, isle, isle, 0, 0);
            illegal("winds", winds, isle, isle, 0, 9);
            illegal("winds, no span either", winds, isle, isle, 9, 0);
            illegal("debt", debt, isle, isle, 0, 9);
            illegal("debt, no span either", debt, isle, isle, 9, 0);
            noSuch("between, no such hour", between, isle, isle, 168, 0);
            noSuch("between, another what", between, isle, isle, 0, 4);
        }
        for (int none : NO_ISLES) {
            noSuch("between", between, none, none, 0, 0);
            noSuch("winds", winds, none, none, 0, 9);
            noSuch("debt", debt, none, none, 0, 9);
        }
    }

    private static void counts() {
        for (int what : of(-1, 12, 13, 19, 24, 25, LEAST, MOST)) {
            noSuch("count", (x, a) -> x.count(a[0]), what);
        }
    }

    /** Three crossings are left: of the i-th of these. */
    private static void freedOnes() {
        Check.same("three are left", full().freed(-1), 3);
        for (int i : of(-2, 3, 40, LEAST, MOST)) {
            noSuch("freed", (x, a) -> x.freed(a[0]), i);
        }
    }

    /** "NoSuchElementException: also nothing is kept" */
    private static void ropes() {
        TetherSky x = Check.under("isle 10 10 20 50 2 6 4 1;");
        Check.noSuch("rope(0) ahead of all", () -> x.rope(0));
        Check.same("least", x.least(0, 0, 0, false), 0);
        Check.same("rope(0)", x.rope(0), 20);
        Check.noSuch("rope(1)", () -> x.rope(1));
    }

    /** "no such ISLE but NONE" */
    private static void weeks() {
        for (int isle : of(-2, ISLES, LEAST, MOST)) {
            noSuch("week", (x, a) -> x.week(1, a[0]), isle);
        }
        unchanged("week", (x, a) -> x.week(1, -1), of());
        unchanged("week", (x, a) -> x.week(1, 2), of());
    }

    // ---- illegal arguments ----

    /** "the tape has not so many, n below 0 (nothing changes)": the tape has 20. */
    private static void skies() {
        for (int n : of(-1, 21, 700, LEAST, MOST)) {
            illegal("sky", (x, a) -> x.sky(a[0]), n);
        }
        Check.same("sky of all 20", full().sky(20), 0);
        Check.same("sky of none", full().sky(0), 0);
    }

    /** "IllegalArgumentException: also more than 24 HOURS, n" */
    private static void winchings() {
        for (boolean light : new boolean[] {false, true}) {
            for (int n : of(-1, 5, LEAST, MOST)) {
                illegal("least by n", (x, a) -> x.least(0, 9, a[0], light), n);
                illegal("least by n, 25 hours too", (x, a) -> x.least(0, 24, a[0], light), n);
            }
            illegal("least, 25 hours", (x, a) -> x.least(a[0], a[1], 0, light), 0, 24);
            illegal("least, the last 25 hours", (x, a) -> x.least(a[0], a[1], 0, light), 143, 167);
            illegal("least, the week", (x, a) -> x.least(a[0], a[1], 0, light), 0, 167);
        }
    }

    /** "IllegalArgumentException: also more than 8 HOURS" */
    private static void calms() {
        for (int what = 0; what < 2; what++) {
            illegal("calm, 9 hours", (x, a) -> x.calm(a[0], a[1], a[2]), 0, 8, what);
            illegal("calm, the last 9 hours", (x, a) -> x.calm(a[0], a[1], a[2]), 159, 167, what);
            illegal("calm, the week", (x, a) -> x.calm(a[0], a[1], a[2]), 0, 167, what);
        }
        noSuch("calm, 9 hours, another what", (x, a) -> x.calm(a[0], a[1], a[2]), 0, 8, 2);
    }

    // ---- refused by an answer ----

    private static void refusedActs() {
        for (int rope : of(0, -1, 61, LEAST, MOST)) {
            refused("winch", 1, -1, (x, a) -> x.winch(1, a[0]), rope);
        }
        for (int load : of(-1, 61, LEAST, MOST)) {
            refused("load", 1, -1, (x, a) -> x.load(1, a[0]), load);
        }
        refused("a knot less than none", 1, -1, (x, a) -> x.knot(2, false));
    }

    /** "both are one, there is no GOAT, no BRIDGE; the other one has 9" */
    private static void refusedGoats() {
        Asked goat = (x, a) -> x.goat(a[0], a[1], a[2]) ? 1 : 0;
        refused("to itself", 1, 0, goat, 0, 0, 0);
        refused("no goat", 1, 0, goat, 1, 0, 0);
        refused("the other one has 9", 1, 0, goat, 0, 2, 0);
        TetherSky far = Check.under("isle 0 0 9 9 1 0 0 1;isle 9 9 9 9 1 0 0 1;");
        Check.same("no bridge", far.goat(0, 1, 0), false);
        Check.same("the refusal", far.count(10), 1);
        Check.same("the goats stay", far.isle(0, 8) * 10 + far.isle(1, 8), 11);
        Check.same("no act", far.undo(), -1);
    }

    /** "no such SIDES, both are one, so many are not there, it is below 1": isle 0 has 1 2 1 1, with one that walked. */
    private static void refusedWalks() {
        Asked walk = (x, a) -> x.walk(0, a[0], a[1], a[2]);
        for (int side : of(-1, 4, LEAST, MOST)) {
            refused("from no side", 1, -1, walk, side, 0, 1);
            refused("to no side", 1, -1, walk, 0, side, 1);
            refused("from no side to it", 1, -1, walk, side, side, 1);
        }
        for (int side = 0; side < 4; side++) {
            refused("both are one", 1, -1, walk, side, side, 1);
        }
        refused("so many are not there", 1, -1, walk, 0, 2, 2);
        refused("so many are not there", 1, -1, walk, 1, 2, 4);
        refused("as many as there can be", 1, -1, walk, 1, 2, MOST);
        for (int people : of(0, -1, LEAST)) {
            refused("below 1", 1, -1, walk, 1, 2, people);
        }
    }

    /** "there are 40, no such place": of three isles 0 and 1 are places. */
    private static void refusedCrossings() {
        for (int place : of(-1, 2, 3, 10, LEAST, MOST)) {
            refused("cross", 2, -1, (x, a) -> x.cross(a[0], true), place);
            refused("cross", 2, -1, (x, a) -> x.cross(a[0], false), place);
        }
    }

    /** "there are 12, it is not 0 to 60 high" */
    private static void refusedSights() {
        for (int high : of(-1, 61, LEAST, MOST)) {
            refused("see", 2, -1, (x, a) -> x.see(1, 5, a[0]), high);
        }
    }

    /** NONE that tells that there is none is no refusal. */
    private static void noneWithoutStatus() {
        TetherSky x = Check.under("isle 0 0 9 9 1 0 0 1;isle 1 0 9 9 1 0 0 1;");
        Check.same("undo", x.undo(), -1);
        Check.same("uncross", x.uncross(), -1);
        Check.same("restore", x.restore(), false);
        Check.same("least", x.least(0, 0, 0, false), -1);
        Check.same("rain", x.rain(0, 0), -1);
        Check.same("fits", x.fits(1), 1);
        Check.same("status", x.count(9) + x.count(10) + x.count(11), 0);
        Check.same("acts and crossings", x.count(5) + x.count(6), 0);
        refused("least, NONE", NO_STATUS, -1, (y, a) -> knockingAlways(y));
    }

    /** Isles 0 and 1 are winched to one height, so that by 0 yards they knock; then as it was. */
    private static long knockingAlways(TetherSky x) {
        x.winch(0, 20);
        x.knot(0, false);
        x.winch(1, 21);
        long least = x.least(0, 0, 0, false);
        x.undo();
        x.undo();
        x.undo();
        return least;
    }

    /** "NONE, and none come, if it would have more than 700" */
    private static void fullTape() {
        TetherSky x = new TetherSky();
        for (int i = 0; i < 34; i++) {
            x.feed(0x20202020, 0x20202020, 0x20202020, 0x20202020, 0x20202020);
        }
        Check.same("the 35th still comes", x.feed(0x20202020, 0x20202020, 0x20202020, 0x20202020, 0x20202020), 700);
        for (int i = 0; i < 3; i++) {
            Check.same("no more", x.feed(-1, -1, -1, -1, -1), -1);
            Check.same("none come", x.count(8), 700);
        }
        Check.illegal("so none are there", () -> x.sky(701));
        Check.same("nor in place of others", x.sky(700), 0);
        Check.same("it is no refusal", x.count(9) + x.count(10) + x.count(11), 0);
    }

    /** "the FAULT (all else stays, but STATUS)"; the tape is empty then. */
    private static void faultyText() {
        TetherSky x = full();
        Check.same("cut within a line", x.sky(5), 1);
        long[] row = Whole.of(fullWithoutTape());
        row[Whole.STATUS]++;
        row[Whole.FAULT] = 5;
        Check.sameRow("all else stays behind a fault", Whole.of(x), row);
    }
}
