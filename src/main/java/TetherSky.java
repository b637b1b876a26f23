import java.util.NoSuchElementException;

/** Isles that float, each on a rope that a post holds, hour by hour of a week. */
public final class TetherSky {
    public static final int NONE = -1;

    private static final int SPENT = -2;
    private static final int LONGEST_TEXT = 700;
    private static final int FEED_BYTES = 20;
    private static final int MOST_ISLES = 6;
    private static final int SIDES = 4;
    private static final int HILL = 1;
    private static final int REEF = 2;
    private static final int MOST_WINDS = 12;
    private static final int STRENGTHS = 4;
    private static final int WEEK_HOURS = 168;
    private static final int DAY_HOURS = 24;
    private static final int LONGEST_ROPE = 60;
    private static final int MOST_KNOTS = 60;
    private static final int MOST_LOAD = 60;
    private static final int MOST_GOATS = 9;
    private static final int HIGHEST = 60;
    private static final int MOST_ACTS = 40;
    private static final int MOST_CROSSINGS = 40;
    private static final int MOST_SEEN = 12;
    private static final int OVER = 10;
    private static final int MOST_LET_OUT = 9;
    private static final int LONGEST_CALM = 8;
    private static final int LONGEST_WINCHING = 24;
    private static final int MOST_TO_WINCH = 4;
    private static final int MOST_YARDS = 4;
    private static final int ROPES_TRIED = 9;
    private static final int SLOTS = 36;

    private final byte[] tape = new byte[LONGEST_TEXT];
    private int tapeSize = 0;
    private final Reader reader = new Reader();
    private int faultPlace = NONE;
    private Sky told = new Sky();
    private Sky spare = new Sky();
    private final State now = new State();
    private final State kept = new State();
    private boolean isKept = false;
    private final Isles trial = new Isles();
    private final Air air = new Air();
    private final Winching winching = new Winching();
    private final int[] tally = new int[MOST_ISLES];
    private final int[] owed = new int[MOST_ISLES * MOST_ISLES];
    private final int[] freedRow = new int[MOST_CROSSINGS];

    public TetherSky() {
    }

    // ---- texts ----

    public int feed(int a, int b, int c, int d, int e) {
        if (tapeSize + FEED_BYTES > LONGEST_TEXT) {
            return NONE;
        }
        putOnTape(a);
        putOnTape(b);
        putOnTape(c);
        putOnTape(d);
        putOnTape(e);
        return tapeSize;
    }

    private void putOnTape(int number) {
        for (int shift = 24; shift >= 0; shift -= 8) {
            if (tapeSize < tape.length) {
                tape[tapeSize] = (byte) (number >> shift);
                tapeSize++;
            }
        }
    }

    public int sky(int n) throws IllegalArgumentException {
        if (n < 0 || n > tapeSize) {
            throw new IllegalArgumentException("the tape has not so many bytes");
        }
        tapeSize = 0;
        int fault = reader.readText(tape, n, spare);
        if (fault != 0) {
            faultPlace = reader.place;
            now.refused[State.TEXTS]++;
            return fault;
        }
        faultPlace = NONE;
        Sky old = told;
        told = spare;
        spare = old;
        now.begin(told.isles);
        isKept = false;
        winching.forget();
        return 0;
    }

    public int fault() {
        return faultPlace;
    }

    // ---- what there is ----

    public int count(int what) throws NoSuchElementException {
        if (what >= 20 && what < 20 + STRENGTHS) {
            return told.weights[what - 20];
        }
        switch (what) {
            case 0: return now.isles.count;
            case 1: return told.windCount;
            case 2: return told.church;
            case 3: return told.reach;
            case 4: return told.light;
            case 5: return now.actCount;
            case 6: return now.crossingCount;
            case 7: return now.seenCount;
            case 8: return tapeSize;
            case 9: return now.refused[State.TEXTS];
            case 10: return now.refused[State.ACTS];
            case 11: return now.refused[State.OTHERS];
            default: throw new NoSuchElementException("no such count");
        }
    }

    public int isle(int isle, int what) throws NoSuchElementException {
        needIsle(isle);
        Isles isles = now.isles;
        if (what >= 12 && what < 12 + SIDES) {
            return isles.side[isle * SIDES + what - 12];
        }
        switch (what) {
            case 0: return isles.kind[isle];
            case 1: return isles.postX[isle];
            case 2: return isles.postY[isle];
            case 3: return isles.rope[isle];
            case 4: return isles.lift[isle];
            case 5: return isles.size[isle];
            case 6: return isles.people[isle];
            case 7: return isles.load[isle];
            case 8: return isles.goats[isle];
            case 9: return isles.knots[isle];
            case 10: return isles.weight(isle);
            case 11: return isles.floats(isle) ? 1 : 0;
            default: throw new NoSuchElementException("nothing such of an isle");
        }
    }

    public int wind(int hour, int what) throws NoSuchElementException {
        needHour(hour);
        needWhat(what, 2);
        return what == 0 ? told.windAlongX(hour) : told.windAlongY(hour);
    }

    public int where(int isle, int hour, int what) throws NoSuchElementException {
        needIsle(isle);
        needHour(hour);
        needWhat(what, 5);
        air.put(told, now.isles, isle, isle, hour, 0);
        switch (what) {
            case 0: return air.x[isle];
            case 1: return air.y[isle];
            case 2: return air.high[isle];
            case 3: return air.push[isle];
            default: return isAtChurch(hour) ? now.isles.people[isle] : now.isles.leaning(isle);
        }
    }

    private static boolean isAtChurch(int hour) {
        int ofDay = hour % DAY_HOURS;
        return hour / DAY_HOURS == 6 && (ofDay == 10 || ofDay == 11);
    }

    public boolean between(int one, int two, int hour, int what)
            throws NoSuchElementException, IllegalArgumentException {
        needIsle(one);
        needIsle(two);
        needHour(hour);
        needWhat(what, 4);
        needTwo(one, two);
        air.put(told, now.isles, one, one, hour, 0);
        air.put(told, now.isles, two, two, hour, 0);
        switch (what) {
            case 0: return air.areOver(one, two, 0);
            case 1: return air.knocks(one, two);
            case 2: return air.isShaded(one, two);
            default: return air.hasBridge(one, two, told.reach);
        }
    }

    public int rain(int isle, int hour) throws NoSuchElementException {
        needIsle(isle);
        needHour(hour);
        blow(now.isles, hour, 0);
        return air.rainFrom(isle, now.isles.count);
    }

    // ---- acts ----

    public int winch(int isle, int rope) throws NoSuchElementException {
        needIsle(isle);
        if (rope < 1 || rope > LONGEST_ROPE) {
            now.refused[State.ACTS]++;
            return NONE;
        }
        int old = now.isles.rope[isle];
        now.isles.rope[isle] = rope;
        now.keepAct(State.WINCH, isle, old, 0, 0);
        return old;
    }

    public int knot(int isle, boolean more) throws NoSuchElementException {
        needIsle(isle);
        int old = now.isles.knots[isle];
        int knots = more ? old + 1 : old - 1;
        if (knots < 0 || knots > MOST_KNOTS) {
            now.refused[State.ACTS]++;
            return NONE;
        }
        now.isles.knots[isle] = knots;
        now.keepAct(State.KNOT, isle, old, 0, 0);
        return knots;
    }

    public int load(int isle, int load) throws NoSuchElementException {
        needIsle(isle);
        if (load < 0 || load > MOST_LOAD) {
            now.refused[State.ACTS]++;
            return NONE;
        }
        int old = now.isles.load[isle];
        now.isles.load[isle] = load;
        now.keepAct(State.LOAD, isle, old, 0, 0);
        return old;
    }

    public boolean goat(int from, int to, int hour) throws NoSuchElementException {
        needIsle(from);
        needIsle(to);
        needHour(hour);
        if (!canThrowGoat(from, to, hour)) {
            now.refused[State.ACTS]++;
            return false;
        }
        now.isles.goats[from]--;
        now.isles.goats[to]++;
        now.keepAct(State.GOAT, from, to, 0, 0);
        return true;
    }

    private boolean canThrowGoat(int from, int to, int hour) {
        if (from == to || now.isles.goats[from] < 1 || now.isles.goats[to] >= MOST_GOATS) {
            return false;
        }
        air.put(told, now.isles, from, from, hour, 0);
        air.put(told, now.isles, to, to, hour, 0);
        return air.hasBridge(from, to, told.reach);
    }

    public int walk(int isle, int from, int to, int people) throws NoSuchElementException {
        needIsle(isle);
        if (!canWalk(isle, from, to, people)) {
            now.refused[State.ACTS]++;
            return NONE;
        }
        now.isles.side[isle * SIDES + from] -= people;
        now.isles.side[isle * SIDES + to] += people;
        now.keepAct(State.WALK, isle, from, to, people);
        return now.isles.side[isle * SIDES + to];
    }

    private boolean canWalk(int isle, int from, int to, int people) {
        if (from < 0 || from >= SIDES || to < 0 || to >= SIDES || from == to) {
            return false;
        }
        return people >= 1 && people <= now.isles.side[isle * SIDES + from];
    }

    public int undo() {
        if (now.actCount == 0) {
            return NONE;
        }
        now.takeBackAct();
        return now.actCount;
    }

    // ---- spans ----

    public int knock(int from, int to, int what) throws NoSuchElementException, IllegalArgumentException {
        needWhat(what, 2);
        needSpan(from, to, WEEK_HOURS);
        for (int hour = from; hour <= to; hour++) {
            blow(now.isles, hour, 0);
            int pair = air.firstKnock(now.isles.count);
            if (pair != NONE) {
                return what == 0 ? hour : pair;
            }
        }
        return NONE;
    }

    public int shade(int isle, int from, int to) throws NoSuchElementException, IllegalArgumentException {
        needIsle(isle);
        needSpan(from, to, WEEK_HOURS);
        int hours = 0;
        for (int hour = from; hour <= to; hour++) {
            blow(now.isles, hour, 0);
            if (air.rainFrom(isle, now.isles.count) != NONE) {
                hours++;
            }
        }
        return hours;
    }

    public int wet(int isle, int from, int to) throws NoSuchElementException, IllegalArgumentException {
        needIsle(isle);
        needSpan(from, to, WEEK_HOURS);
        clearTally(0);
        for (int hour = from; hour <= to; hour++) {
            blow(now.isles, hour, 0);
            int above = air.rainFrom(isle, now.isles.count);
            if (above != NONE) {
                tally[above]++;
            }
        }
        return mostInTally();
    }

    private void clearTally(int first) {
        for (int isle = 0; isle < MOST_ISLES; isle++) {
            tally[isle] = first;
        }
    }

    private int mostInTally() {
        int most = 0;
        int found = NONE;
        for (int isle = 0; isle < MOST_ISLES; isle++) {
            if (tally[isle] > most) {
                most = tally[isle];
                found = isle;
            }
        }
        return found;
    }

    public int winds(int one, int two, int from, int to)
            throws NoSuchElementException, IllegalArgumentException {
        needIsle(one);
        needIsle(two);
        needSpan(from, to, WEEK_HOURS);
        needTwo(one, two);
        int turns = 0;
        boolean wasWest = false;
        for (int hour = from; hour <= to; hour++) {
            air.put(told, now.isles, one, one, hour, 0);
            air.put(told, now.isles, two, two, hour, 0);
            boolean isWest = air.x[two] < air.x[one];
            if (hour > from && isWest != wasWest && air.y[two] > air.y[one]) {
                turns += wasWest ? -1 : 1;
            }
            wasWest = isWest;
        }
        return turns;
    }

    // ---- winching and ways ----

    public int least(int from, int to, int n, boolean light) throws IllegalArgumentException {
        needSpan(from, to, LONGEST_WINCHING);
        if (n < 0 || n > MOST_YARDS) {
            throw new IllegalArgumentException("so many yards are not winched");
        }
        if (now.isles.count > MOST_TO_WINCH) {
            return SPENT;
        }
        trial.copyFrom(now.isles);
        winching.clearMarks();
        for (int hour = from; hour <= to; hour++) {
            for (int isle = 0; isle < trial.count; isle++) {
                putRopes(isle, n, hour);
            }
            winching.markHour(air, trial.count, light, hour - from);
        }
        return winching.search(now.isles, n, light ? told.light : 0);
    }

    private void putRopes(int isle, int n, int hour) {
        int rope = now.isles.rope[isle];
        for (int yards = -n; yards <= n; yards++) {
            trial.rope[isle] = rope + yards;
            air.put(told, trial, isle, Winching.slotOf(isle, yards), hour, 0);
        }
        trial.rope[isle] = rope;
    }

    public int rope(int isle) throws NoSuchElementException {
        needIsle(isle);
        if (!winching.isFound || isle >= MOST_TO_WINCH) {
            throw new NoSuchElementException("no ropes are kept");
        }
        return winching.ropes[isle];
    }

    public int way(int from, int to, int hour, int what) throws NoSuchElementException {
        needIsle(from);
        needIsle(to);
        needHour(hour);
        needWhat(what, 2);
        clearTally(NONE);
        tally[from] = 0;
        for (int then = hour; then < WEEK_HOURS; then++) {
            if (tally[to] == NONE) {
                blow(now.isles, then, 0);
                goOverBridges(now.isles.count);
            }
            if (tally[to] != NONE) {
                return what == 0 ? then : tally[to];
            }
        }
        return NONE;
    }

    /** The tally holds the fewest bridges to each isle so far: no way in one hour has more parts than isles. */
    private void goOverBridges(int isles) {
        for (int round = 1; round < isles; round++) {
            for (int from = 0; from < isles; from++) {
                for (int to = 0; to < isles; to++) {
                    if (isNearer(from, to) && air.hasBridge(from, to, told.reach)) {
                        tally[to] = tally[from] + 1;
                    }
                }
            }
        }
    }

    private boolean isNearer(int from, int to) {
        return tally[from] != NONE && (tally[to] == NONE || tally[from] + 1 < tally[to]);
    }

    // ---- crossings ----

    public int cross(int place, boolean over) {
        if (now.crossingCount >= MOST_CROSSINGS || place < 0 || place > now.isles.count - 2) {
            now.refused[State.OTHERS]++;
            return NONE;
        }
        now.crossings[now.crossingCount] = over ? place + OVER : place;
        now.crossingCount++;
        return now.crossingCount;
    }

    public int uncross() {
        if (now.crossingCount == 0) {
            return NONE;
        }
        now.crossingCount--;
        return now.crossingCount;
    }

    public int freed(int i) throws NoSuchElementException {
        int left = freeCrossings();
        if (i == NONE) {
            return left;
        }
        if (i < 0 || i >= left) {
            throw new NoSuchElementException("no such crossing is left");
        }
        return freedRow[i];
    }

    private int freeCrossings() {
        int left = 0;
        for (int i = 0; i < now.crossingCount; i++) {
            int crossing = now.crossings[i];
            if (left > 0 && Math.abs(freedRow[left - 1] - crossing) == OVER) {
                left--;
            } else {
                freedRow[left] = crossing;
                left++;
            }
        }
        return left;
    }

    public int tangle(int isle, int what) throws NoSuchElementException {
        needIsle(isle);
        needWhat(what, 2);
        if (what == 0) {
            return placeBehindCrossings(isle);
        }
        for (int other = 0; other < now.isles.count; other++) {
            if (placeBehindCrossings(other) != other) {
                return 0;
            }
        }
        return freeCrossings();
    }

    private int placeBehindCrossings(int isle) {
        int at = isle;
        for (int i = 0; i < now.crossingCount; i++) {
            int place = now.crossings[i] % OVER;
            if (at == place) {
                at = place + 1;
            } else if (at == place + 1) {
                at = place;
            }
        }
        return at;
    }

    // ---- what was seen ----

    public int see(int isle, int hour, int high) throws NoSuchElementException {
        needIsle(isle);
        needHour(hour);
        if (now.seenCount >= MOST_SEEN || high < 0 || high > HIGHEST) {
            now.refused[State.OTHERS]++;
            return NONE;
        }
        int at = now.seenCount * State.SEEN_SIZE;
        now.seen[at] = isle;
        now.seen[at + 1] = hour;
        now.seen[at + 2] = high;
        now.seenCount++;
        return now.seenCount;
    }

    public int fits(int what) throws NoSuchElementException {
        needWhat(what, 2);
        trial.copyFrom(now.isles);
        int many = 0;
        int first = NONE;
        for (int isle = 0; isle < trial.count; isle++) {
            int rope = now.isles.rope[isle];
            for (int yards = 1; yards <= MOST_LET_OUT && rope + yards <= LONGEST_ROPE; yards++) {
                trial.rope[isle] = rope + yards;
                if (isAllSeenSo()) {
                    first = many == 0 ? 10 * isle + yards : first;
                    many++;
                }
            }
            trial.rope[isle] = rope;
        }
        return what == 0 ? many : first;
    }

    private boolean isAllSeenSo() {
        for (int i = 0; i < now.seenCount; i++) {
            int at = i * State.SEEN_SIZE;
            if (highOnTrial(now.seen[at], now.seen[at + 1]) != now.seen[at + 2]) {
                return false;
            }
        }
        return true;
    }

    private int highOnTrial(int isle, int hour) {
        if (!trial.has(isle)) {
            return NONE;
        }
        air.put(told, trial, isle, isle, hour, 0);
        return air.high[isle];
    }

    public int weighed(int isle, int hour, int high, int what) throws NoSuchElementException {
        needIsle(isle);
        needHour(hour);
        needWhat(what, 2);
        trial.copyFrom(now.isles);
        int many = 0;
        int first = NONE;
        for (int load = 0; load <= MOST_LOAD; load++) {
            trial.load[isle] = load;
            if (highOnTrial(isle, hour) == high) {
                first = many == 0 ? load : first;
                many++;
            }
        }
        return what == 0 ? many : first;
    }

    // ---- gusts ----

    public int gust(int hour, int what) throws NoSuchElementException {
        needHour(hour);
        needWhat(what, 2);
        return (int) inLowestTerms(knockingWeight(hour), told.allWeights(), what);
    }

    public long calm(int from, int to, int what) throws NoSuchElementException, IllegalArgumentException {
        needWhat(what, 2);
        needSpan(from, to, LONGEST_CALM);
        long upper = 1;
        long lower = 1;
        for (int hour = from; hour <= to; hour++) {
            int all = told.allWeights();
            upper *= all - knockingWeight(hour);
            lower *= all;
        }
        return inLowestTerms(upper, lower, what);
    }

    private int knockingWeight(int hour) {
        int together = 0;
        for (int strength = 0; strength < STRENGTHS; strength++) {
            if (told.weights[strength] > 0) {
                blow(now.isles, hour, strength);
                if (air.firstKnock(now.isles.count) != NONE) {
                    together += told.weights[strength];
                }
            }
        }
        return together;
    }

    private static long inLowestTerms(long upper, long lower, int what) {
        long a = upper;
        long b = lower;
        for (int i = 0; i < 1000 && b != 0; i++) {
            long rest = a % b;
            a = b;
            b = rest;
        }
        if (a == 0) {
            return 0;
        }
        return (what == 0 ? upper : lower) / a;
    }

    // ---- views and debts ----

    public int view(int isle, int hour, int what) throws NoSuchElementException {
        needIsle(isle);
        needHour(hour);
        needWhat(what, 3);
        blow(now.isles, hour, 0);
        int best = air.lower(isle, now.isles.count);
        if (what == 0) {
            return best;
        }
        trial.copyFrom(now.isles);
        int fewest = 0;
        int rope = now.isles.rope[isle];
        for (int yards = 1; yards <= LONGEST_ROPE - rope; yards++) {
            trial.rope[isle] = rope + yards;
            air.put(told, trial, isle, isle, hour, 0);
            int lower = air.lower(isle, trial.count);
            if (lower > best) {
                best = lower;
                fewest = yards;
            }
        }
        return what == 1 ? fewest : best;
    }

    public int debt(int one, int other, int from, int to)
            throws NoSuchElementException, IllegalArgumentException {
        needIsle(one);
        needIsle(other);
        needSpan(from, to, WEEK_HOURS);
        needTwo(one, other);
        sumDebts(from, to);
        return debtLeft(one, other);
    }

    public int rich(int from, int to) throws IllegalArgumentException {
        needSpan(from, to, WEEK_HOURS);
        sumDebts(from, to);
        clearTally(0);
        for (int one = 0; one < now.isles.count; one++) {
            for (int other = 0; other < now.isles.count; other++) {
                tally[other] += debtLeft(one, other);
            }
        }
        return mostInTally();
    }

    private void sumDebts(int from, int to) {
        for (int i = 0; i < owed.length; i++) {
            owed[i] = 0;
        }
        for (int hour = from; hour <= to; hour++) {
            blow(now.isles, hour, 0);
            for (int isle = 0; isle < now.isles.count; isle++) {
                int above = air.rainFrom(isle, now.isles.count);
                if (above != NONE) {
                    owed[isle * MOST_ISLES + above]++;
                }
            }
        }
    }

    private int debtLeft(int one, int other) {
        int left = owed[one * MOST_ISLES + other] - owed[other * MOST_ISLES + one];
        return Math.max(left, 0);
    }

    // ---- a week by a seed ----

    public int week(int seed, int isle) throws NoSuchElementException {
        if (isle != NONE) {
            needIsle(isle);
        }
        trial.copyFrom(now.isles);
        int grown = seed;
        int hours = 0;
        for (int day = 0; day < WEEK_HOURS / DAY_HOURS && trial.count > 0; day++) {
            grown = nextSeed(grown);
            int drawn = drawOf(grown, trial.count);
            grown = nextSeed(grown);
            int rope = trial.rope[drawn] + 1 + drawOf(grown, MOST_LET_OUT);
            trial.rope[drawn] = Math.min(rope, LONGEST_ROPE);
            if (isle == NONE) {
                hours += knockingHours(day * DAY_HOURS);
            }
        }
        return isle == NONE ? hours : trial.rope[isle];
    }

    private static int nextSeed(int seed) {
        return seed * 1103515245 + 12345;
    }

    private static int drawOf(int seed, int n) {
        return n > 0 ? ((seed >>> 16) & 32767) % n : 0;
    }

    private int knockingHours(int from) {
        int hours = 0;
        for (int hour = from; hour < from + DAY_HOURS; hour++) {
            blow(trial, hour, 0);
            if (air.firstKnock(trial.count) != NONE) {
                hours++;
            }
        }
        return hours;
    }

    // ---- the image ----

    public void image() {
        kept.copyFrom(now);
        isKept = true;
    }

    public boolean restore() {
        if (!isKept) {
            return false;
        }
        now.copyFrom(kept);
        return true;
    }

    // ---- what every call needs ----

    private void blow(Isles isles, int hour, int strength) {
        for (int isle = 0; isle < isles.count; isle++) {
            air.put(told, isles, isle, isle, hour, strength);
        }
    }

    private void needIsle(int isle) throws NoSuchElementException {
        if (!now.isles.has(isle)) {
            throw new NoSuchElementException("no such isle");
        }
    }

    private static void needHour(int hour) throws NoSuchElementException {
        if (hour < 0 || hour >= WEEK_HOURS) {
            throw new NoSuchElementException("no such hour");
        }
    }

    private static void needWhat(int what, int whats) throws NoSuchElementException {
        if (what < 0 || what >= whats) {
            throw new NoSuchElementException("nothing such is told");
        }
    }

    private static void needSpan(int from, int to, int mostHours) throws IllegalArgumentException {
        if (from < 0 || to >= WEEK_HOURS || from > to || to - from >= mostHours) {
            throw new IllegalArgumentException("no such span");
        }
    }

    private static void needTwo(int one, int two) throws IllegalArgumentException {
        if (one == two) {
            throw new IllegalArgumentException("both are one");
        }
    }

    /** The isles: what a text tells of them, and what lies on them now. */
    private static final class Isles {
        int count = 0;
        final int[] kind = new int[MOST_ISLES];
        final int[] postX = new int[MOST_ISLES];
        final int[] postY = new int[MOST_ISLES];
        final int[] rope = new int[MOST_ISLES];
        final int[] lift = new int[MOST_ISLES];
        final int[] size = new int[MOST_ISLES];
        final int[] people = new int[MOST_ISLES];
        final int[] load = new int[MOST_ISLES];
        final int[] goats = new int[MOST_ISLES];
        final int[] knots = new int[MOST_ISLES];
        final int[] side = new int[MOST_ISLES * SIDES];

        boolean has(int isle) {
            return isle >= 0 && isle < count && isle < MOST_ISLES;
        }

        boolean isPost(int x, int y) {
            for (int isle = 0; isle < count; isle++) {
                if (postX[isle] == x && postY[isle] == y) {
                    return true;
                }
            }
            return false;
        }

        void settle(int isle, int newPeople) {
            people[isle] = newPeople;
            for (int i = 0; i < SIDES; i++) {
                side[isle * SIDES + i] = newPeople / SIDES + (i < newPeople % SIDES ? 1 : 0);
            }
        }

        int weight(int isle) {
            int own = kind[isle] == HILL ? 5 : 0;
            return people[isle] + load[isle] + 2 * goats[isle] + own;
        }

        int line(int isle) {
            return Math.max(rope[isle] - knots[isle], 0);
        }

        boolean floats(int isle) {
            return lift[isle] > weight(isle) && line(isle) != 0;
        }

        int leaning(int isle) {
            int at = isle * SIDES;
            int northSouth = Math.abs(side[at] - side[at + 2]);
            int eastWest = Math.abs(side[at + 1] - side[at + 3]);
            return Math.max(northSouth, eastWest);
        }

        void copyFrom(Isles other) {
            count = other.count;
            for (int i = 0; i < MOST_ISLES; i++) {
                kind[i] = other.kind[i];
                postX[i] = other.postX[i];
                postY[i] = other.postY[i];
                rope[i] = other.rope[i];
                lift[i] = other.lift[i];
                size[i] = other.size[i];
                people[i] = other.people[i];
                load[i] = other.load[i];
                goats[i] = other.goats[i];
                knots[i] = other.knots[i];
            }
            System.arraycopy(other.side, 0, side, 0, MOST_ISLES * SIDES);
        }
    }

    /** What a text tells, and no act changes. */
    private static final class Sky {
        final Isles isles = new Isles();
        int windCount = 0;
        final int[] windFrom = new int[MOST_WINDS];
        final int[] windX = new int[MOST_WINDS];
        final int[] windY = new int[MOST_WINDS];
        int church = 0;
        int reach = 2;
        int light = 8;
        final int[] weights = new int[STRENGTHS];
        final Rule rule = new Rule();

        Sky() {
            weights[0] = 1;
        }

        void clear() {
            isles.count = 0;
            windCount = 0;
            church = 0;
            reach = 2;
            light = 8;
            weights[0] = 1;
            for (int i = 1; i < STRENGTHS; i++) {
                weights[i] = 0;
            }
            rule.size = 0;
        }

        boolean hasWindFrom(int hour) {
            for (int i = 0; i < windCount; i++) {
                if (windFrom[i] == hour) {
                    return true;
                }
            }
            return false;
        }

        int windAlongX(int hour) {
            int latest = latestWind(hour);
            return latest == NONE ? 0 : windX[latest];
        }

        int windAlongY(int hour) {
            int latest = latestWind(hour);
            return latest == NONE ? 0 : windY[latest];
        }

        private int latestWind(int hour) {
            int latest = NONE;
            for (int i = 0; i < windCount; i++) {
                if (windFrom[i] <= hour && (latest == NONE || windFrom[i] > windFrom[latest])) {
                    latest = i;
                }
            }
            return latest;
        }

        int allWeights() {
            int together = 0;
            for (int i = 0; i < STRENGTHS; i++) {
                together += weights[i];
            }
            return together;
        }

        int pushOf(Isles of, int isle, int hour, int strength) {
            int ruled = rule.size == 0 ? 50 : rule.worth(of, isle, hour);
            int whole = Math.min(Math.max(ruled, 0), 100);
            int withGust = Math.min(whole + 20 * strength, 100);
            return of.kind[isle] == REEF ? withGust / 2 : withGust;
        }
    }

    /** The rule of the push: behind its parts stands what joins them, so that a stack reckons it. */
    private static final class Rule {
        static final int VALUES = 8;
        static final int NOT = -100;
        static final int AND = -101;
        static final int OR = -102;
        // 6 rules within one another, in each of them at most 5 parts that wait, and one more
        private static final int MOST_WAITING = 40;

        final int[] steps = new int[LONGEST_TEXT];
        int size = 0;
        private final int[] waiting = new int[MOST_WAITING];

        void add(int step) {
            if (size < steps.length) {
                steps[size] = step;
                size++;
            }
        }

        void addValue(int value) {
            add(-1 - value);
        }

        void addSign(int sign) {
            add(-sign);
        }

        int worth(Isles isles, int isle, int hour) {
            int top = 0;
            for (int i = 0; i < size; i++) {
                int step = steps[i];
                if (step >= -VALUES && top < MOST_WAITING) {
                    waiting[top] = step >= 0 ? step : valueOf(-1 - step, isles, isle, hour);
                    top++;
                } else if (step == NOT && top >= 1) {
                    waiting[top - 1] = waiting[top - 1] == 0 ? 1 : 0;
                } else if (top >= 2) {
                    top--;
                    waiting[top - 1] = join(step, waiting[top - 1], waiting[top]);
                }
            }
            return waiting[0];
        }

        private static int valueOf(int value, Isles isles, int isle, int hour) {
            switch (value) {
                case 0: return isles.lift[isle];
                case 1: return isles.weight(isle);
                case 2: return isles.rope[isle];
                case 3: return isles.knots[isle];
                case 4: return isles.people[isle];
                case 5: return hour % DAY_HOURS;
                case 6: return hour / DAY_HOURS;
                default: return isles.size[isle];
            }
        }

        private static int join(int step, int left, int right) {
            switch (step) {
                case -'+': return left + right;
                case -'-': return left - right;
                case -'*': return left * right;
                case -'/': return right == 0 ? 0 : left / right;
                case -'<': return left < right ? 1 : 0;
                case -'=': return left == right ? 1 : 0;
                case AND: return left != 0 && right != 0 ? 1 : 0;
                default: return left != 0 || right != 0 ? 1 : 0;
            }
        }
    }

    /** All that an image keeps. */
    private static final class State {
        static final int TEXTS = 0;
        static final int ACTS = 1;
        static final int OTHERS = 2;
        static final int WINCH = 0;
        static final int KNOT = 1;
        static final int LOAD = 2;
        static final int GOAT = 3;
        static final int WALK = 4;
        static final int SEEN_SIZE = 3;
        private static final int ACT_SIZE = 5;

        final Isles isles = new Isles();
        private final int[] acts = new int[MOST_ACTS * ACT_SIZE];
        int actCount = 0;
        final int[] crossings = new int[MOST_CROSSINGS];
        int crossingCount = 0;
        final int[] seen = new int[MOST_SEEN * SEEN_SIZE];
        int seenCount = 0;
        final int[] refused = new int[3];

        void begin(Isles told) {
            isles.copyFrom(told);
            actCount = 0;
            crossingCount = 0;
            seenCount = 0;
        }

        void copyFrom(State other) {
            isles.copyFrom(other.isles);
            System.arraycopy(other.acts, 0, acts, 0, MOST_ACTS * ACT_SIZE);
            actCount = other.actCount;
            System.arraycopy(other.crossings, 0, crossings, 0, MOST_CROSSINGS);
            crossingCount = other.crossingCount;
            System.arraycopy(other.seen, 0, seen, 0, MOST_SEEN * SEEN_SIZE);
            seenCount = other.seenCount;
            System.arraycopy(other.refused, 0, refused, 0, 3);
        }

        void keepAct(int kind, int isle, int a, int b, int c) {
            if (actCount >= MOST_ACTS) {
                dropOldestAct();
            }
            int at = actCount * ACT_SIZE;
            acts[at] = kind;
            acts[at + 1] = isle;
            acts[at + 2] = a;
            acts[at + 3] = b;
            acts[at + 4] = c;
            actCount++;
        }

        private void dropOldestAct() {
            for (int i = ACT_SIZE; i < acts.length; i++) {
                acts[i - ACT_SIZE] = acts[i];
            }
            actCount = MOST_ACTS - 1;
        }

        void takeBackAct() {
            if (actCount < 1) {
                return;
            }
            actCount--;
            int at = actCount * ACT_SIZE;
            int isle = acts[at + 1];
            int a = acts[at + 2];
            switch (acts[at]) {
                case WINCH:
                    isles.rope[isle] = a;
                    break;
                case KNOT:
                    isles.knots[isle] = a;
                    break;
                case LOAD:
                    isles.load[isle] = a;
                    break;
                case GOAT:
                    isles.goats[isle]++;
                    isles.goats[a]--;
                    break;
                default:
                    isles.side[isle * SIDES + a] += acts[at + 4];
                    isles.side[isle * SIDES + acts[at + 3]] -= acts[at + 4];
                    break;
            }
        }
    }

    /** Where isles are in one hour: each in a slot, as one isle can be tried with more than one rope. */
    private static final class Air {
        final int[] x = new int[SLOTS];
        final int[] y = new int[SLOTS];
        final int[] high = new int[SLOTS];
        final int[] push = new int[SLOTS];
        private final int[] size = new int[SLOTS];

        void put(Sky sky, Isles isles, int isle, int slot, int hour, int strength) {
            if (!isles.has(isle) || slot < 0 || slot >= SLOTS) {
                return;
            }
            boolean floats = isles.floats(isle);
            int force = floats ? sky.pushOf(isles, isle, hour, strength) : 0;
            int line = floats ? isles.line(isle) : 0;
            int alongX = line * sky.windAlongX(hour) * force / 900;
            int alongY = line * sky.windAlongY(hour) * force / 900;
            x[slot] = isles.postX[isle] + alongX;
            y[slot] = isles.postY[isle] + alongY;
            high[slot] = line - Math.max(Math.abs(alongX), Math.abs(alongY));
            push[slot] = force;
            size[slot] = isles.size[isle];
        }

        boolean areOver(int one, int two, int reach) {
            int room = size[one] + size[two] + reach;
            return Math.abs(x[one] - x[two]) <= room && Math.abs(y[one] - y[two]) <= room;
        }

        boolean knocks(int one, int two) {
            return Math.abs(high[one] - high[two]) <= 1 && areOver(one, two, 0);
        }

        boolean isShaded(int one, int above) {
            return high[above] - high[one] >= 2 && areOver(one, above, 0);
        }

        boolean hasBridge(int one, int two, int reach) {
            return Math.abs(high[one] - high[two]) <= reach && areOver(one, two, reach);
        }

        int firstKnock(int isles) {
            for (int one = 0; one < isles; one++) {
                for (int two = one + 1; two < isles; two++) {
                    if (knocks(one, two)) {
                        return 10 * one + two;
                    }
                }
            }
            return NONE;
        }

        int rainFrom(int isle, int isles) {
            int lowest = NONE;
            for (int above = 0; above < isles; above++) {
                boolean isLower = lowest == NONE || high[above] < high[lowest];
                if (isLower && above != isle && isShaded(isle, above)) {
                    lowest = above;
                }
            }
            return lowest;
        }

        int lower(int isle, int isles) {
            int many = 0;
            for (int other = 0; other < isles; other++) {
                if (high[other] < high[isle]) {
                    many++;
                }
            }
            return many;
        }
    }

    /** The least winching: a mark tells, for two isles and a rope of each, the hours one is disturbed by the other. */
    private static final class Winching {
        private final int[] marks =
                new int[MOST_TO_WINCH * MOST_TO_WINCH * ROPES_TRIED * ROPES_TRIED];
        private final int[] slots = new int[MOST_TO_WINCH];
        private final int[] tried = new int[MOST_TO_WINCH];
        final int[] ropes = new int[MOST_TO_WINCH];
        boolean isFound = false;

        static int slotOf(int isle, int yards) {
            return isle * ROPES_TRIED + MOST_YARDS + yards;
        }

        private static int markOf(int oneSlot, int otherSlot) {
            return oneSlot * SLOTS + otherSlot;
        }

        void forget() {
            isFound = false;
        }

        void clearMarks() {
            for (int i = 0; i < marks.length; i++) {
                marks[i] = 0;
            }
        }

        void markHour(Air air, int isles, boolean light, int bit) {
            int end = Math.min(isles, MOST_TO_WINCH) * ROPES_TRIED;
            for (int one = 0; one < end; one++) {
                for (int other = 0; other < end; other++) {
                    boolean isOther = one / ROPES_TRIED != other / ROPES_TRIED;
                    if (isOther && (light ? air.isShaded(one, other) : air.knocks(one, other))) {
                        marks[markOf(one, other)] |= 1 << bit;
                    }
                }
            }
        }

        /** Rows come in their order, so that of like ones the first stays. */
        int search(Isles isles, int n, int mostHours) {
            int width = 2 * n + 1;
            int rows = 1;
            for (int isle = 0; isle < isles.count; isle++) {
                rows *= width;
            }
            int fewest = NONE;
            for (int row = 0; row < rows; row++) {
                int yards = takeRow(isles, n, row);
                boolean isBetter = yards != NONE && (fewest == NONE || yards < fewest);
                if (isBetter && isQuiet(isles.count, mostHours)) {
                    fewest = yards;
                    System.arraycopy(tried, 0, ropes, 0, MOST_TO_WINCH);
                    isFound = true;
                }
            }
            return fewest;
        }

        private int takeRow(Isles isles, int n, int row) {
            int width = 2 * n + 1;
            int rest = row;
            int together = 0;
            for (int isle = Math.min(isles.count, MOST_TO_WINCH) - 1; isle >= 0; isle--) {
                int yards = rest % width - n;
                rest /= width;
                tried[isle] = isles.rope[isle] + yards;
                if (tried[isle] < 1 || tried[isle] > LONGEST_ROPE) {
                    return NONE;
                }
                slots[isle] = slotOf(isle, yards);
                together += Math.abs(yards);
            }
            return together;
        }

        private boolean isQuiet(int isles, int mostHours) {
            int end = Math.min(isles, MOST_TO_WINCH);
            for (int one = 0; one < end; one++) {
                int hours = 0;
                for (int other = 0; other < end; other++) {
                    hours |= marks[markOf(slots[one], slots[other])];
                }
                if (Integer.bitCount(hours) > mostHours) {
                    return false;
                }
            }
            return true;
        }
    }

    /** The tokens of a text, one after another. */
    private static final class Tokens {
        static final int END = 0;
        static final int WORD = 1;
        static final int NUMBER = 2;
        static final int OTHER = 3;
        static final int TOO_LONG = 10000;
        private static final String SIGNS = ";()+-*/<=";

        private final byte[] text = new byte[LONGEST_TEXT];
        private int length = 0;
        private int end = 0;
        int start = 0;
        int kind = END;
        int value = 0;

        void begin(byte[] tape, int tapeLength) {
            length = Math.max(Math.min(tapeLength, LONGEST_TEXT), 0);
            for (int i = 0; i < length && i < tape.length; i++) {
                text[i] = tape[i];
            }
            end = 0;
            step();
        }

        /** A sign is its own kind. */
        void step() {
            start = end;
            while (start < length && (text[start] == ' ' || text[start] == '\n')) {
                start++;
            }
            end = start;
            if (start >= length) {
                kind = END;
            } else if (text[start] >= 'a' && text[start] <= 'z') {
                takeWord();
            } else if (text[start] >= '0' && text[start] <= '9') {
                takeNumber();
            } else {
                kind = SIGNS.indexOf((char) (text[start] & 255)) >= 0 ? text[start] : OTHER;
                end = start + 1;
            }
        }

        private void takeWord() {
            kind = WORD;
            while (end < length && text[end] >= 'a' && text[end] <= 'z') {
                end++;
            }
        }

        private void takeNumber() {
            kind = NUMBER;
            value = 0;
            while (end < length && text[end] >= '0' && text[end] <= '9') {
                value = end - start < 4 ? value * 10 + text[end] - '0' : TOO_LONG;
                end++;
            }
        }

        /** Which of some words it is; each of them has a blank behind it. */
        int among(String words) {
            if (kind != WORD) {
                return NONE;
            }
            int number = 0;
            int first = 0;
            for (int i = 0; i < words.length(); i++) {
                if (words.charAt(i) == ' ') {
                    if (spells(words, first, i)) {
                        return number;
                    }
                    number++;
                    first = i + 1;
                }
            }
            return NONE;
        }

        private boolean spells(String words, int first, int behind) {
            if (behind - first != end - start) {
                return false;
            }
            for (int i = first; i < behind; i++) {
                if (words.charAt(i) != text[start + i - first]) {
                    return false;
                }
            }
            return true;
        }
    }

    /** Reads a text as a sky; a method that meets a fault keeps it and answers false. */
    private static final class Reader {
        private static final int NOT_HERE = 1;
        private static final int TOO_MUCH = 2;
        private static final int NO_VALUE = 3;
        private static final int TAKEN = 4;
        private static final int SECOND = 5;
        private static final int MOST_WITHIN = 5;
        private static final int MOST_NOTS = 6;
        private static final int LONGEST_NUMBER = 9999;
        private static final int FIRST_SINGLE = 4;
        private static final int SINGLES = 5;
        private static final String LINES = "isle hill reef wind church gusts reach light push ";
        private static final String SIDE_WORDS = "north east south west ";
        private static final String VALUE_WORDS = "lift weight rope knots people hour day size ";

        private final Tokens tokens = new Tokens();
        private final boolean[] isTold = new boolean[SINGLES];
        private int fault = 0;
        private int number = 0;
        int place = NONE;

        int readText(byte[] tape, int length, Sky sky) {
            fault = 0;
            sky.clear();
            for (int i = 0; i < SINGLES; i++) {
                isTold[i] = false;
            }
            tokens.begin(tape, length);
            for (int i = 0; i <= length && fault == 0 && tokens.kind != Tokens.END; i++) {
                if (readLine(sky)) {
                    takeSign(';');
                }
            }
            return fault;
        }

        private boolean refuse(int why) {
            fault = why;
            place = tokens.start;
            return false;
        }

        private boolean takeSign(int sign) {
            if (tokens.kind != sign) {
                return refuse(NOT_HERE);
            }
            tokens.step();
            return true;
        }

        private boolean isNumber(int fewest, int most) {
            if (tokens.kind != Tokens.NUMBER) {
                return refuse(NOT_HERE);
            }
            if (tokens.value < fewest || tokens.value > most) {
                return refuse(TOO_MUCH);
            }
            number = tokens.value;
            return true;
        }

        private boolean takeNumber(int fewest, int most) {
            if (!isNumber(fewest, most)) {
                return false;
            }
            tokens.step();
            return true;
        }

        private boolean takeSigned() {
            boolean isBelow = tokens.kind == '-';
            if (isBelow) {
                tokens.step();
            }
            if (!takeNumber(0, 9)) {
                return false;
            }
            number = isBelow ? -number : number;
            return true;
        }

        private boolean readLine(Sky sky) {
            int line = tokens.among(LINES);
            if (line == NONE) {
                return refuse(NOT_HERE);
            }
            int single = line - FIRST_SINGLE;
            if (single >= 0 && single < SINGLES) {
                if (isTold[single]) {
                    return refuse(SECOND);
                }
                isTold[single] = true;
            }
            switch (line) {
                case 3: return readWind(sky);
                case 4: return readChurch(sky);
                case 5: return readGusts(sky);
                case 6: return readReach(sky);
                case 7: return readLight(sky);
                case 8: return readPush(sky.rule);
                default: return readIsle(sky.isles, line);
            }
        }

        private boolean readIsle(Isles isles, int kind) {
            int isle = isles.count;
            if (isle >= MOST_ISLES) {
                return refuse(TOO_MUCH);
            }
            tokens.step();
            isles.kind[isle] = kind;
            isles.knots[isle] = 0;
            if (!readPost(isles, isle) || !readBuild(isles, isle) || !readFreight(isles, isle)) {
                return false;
            }
            isles.count++;
            return true;
        }

        private boolean readPost(Isles isles, int isle) {
            if (!takeNumber(0, 60)) {
                return false;
            }
            isles.postX[isle] = number;
            if (!isNumber(0, 60)) {
                return false;
            }
            if (isles.isPost(isles.postX[isle], number)) {
                return refuse(TAKEN);
            }
            isles.postY[isle] = number;
            tokens.step();
            return true;
        }

        private boolean readBuild(Isles isles, int isle) {
            if (!takeNumber(1, LONGEST_ROPE)) {
                return false;
            }
            isles.rope[isle] = number;
            if (!takeNumber(1, 99)) {
                return false;
            }
            isles.lift[isle] = number;
            if (!takeNumber(1, 6)) {
                return false;
            }
            isles.size[isle] = number;
            return true;
        }

        private boolean readFreight(Isles isles, int isle) {
            if (!takeNumber(0, 20)) {
                return false;
            }
            isles.settle(isle, number);
            if (!takeNumber(0, MOST_LOAD)) {
                return false;
            }
            isles.load[isle] = number;
            if (!takeNumber(0, MOST_GOATS)) {
                return false;
            }
            isles.goats[isle] = number;
            return true;
        }

        private boolean readWind(Sky sky) {
            int wind = sky.windCount;
            if (wind >= MOST_WINDS) {
                return refuse(TOO_MUCH);
            }
            tokens.step();
            if (!isNumber(0, WEEK_HOURS - 1)) {
                return false;
            }
            if (sky.hasWindFrom(number)) {
                return refuse(TAKEN);
            }
            sky.windFrom[wind] = number;
            tokens.step();
            if (!takeSigned()) {
                return false;
            }
            sky.windX[wind] = number;
            if (!takeSigned()) {
                return false;
            }
            sky.windY[wind] = number;
            sky.windCount++;
            return true;
        }

        private boolean readChurch(Sky sky) {
            tokens.step();
            int side = tokens.among(SIDE_WORDS);
            if (side == NONE) {
                return refuse(NOT_HERE);
            }
            sky.church = side;
            tokens.step();
            return true;
        }

        private boolean readGusts(Sky sky) {
            tokens.step();
            int together = 0;
            for (int i = 0; i < STRENGTHS; i++) {
                if (!isNumber(0, 9)) {
                    return false;
                }
                together += number;
                if (i == STRENGTHS - 1 && together == 0) {
                    return refuse(TOO_MUCH);
                }
                sky.weights[i] = number;
                tokens.step();
            }
            return true;
        }

        private boolean readReach(Sky sky) {
            tokens.step();
            if (!takeNumber(0, 20)) {
                return false;
            }
            sky.reach = number;
            return true;
        }

        private boolean readLight(Sky sky) {
            tokens.step();
            if (!takeNumber(0, 24)) {
                return false;
            }
            sky.light = number;
            return true;
        }

        private boolean readPush(Rule rule) {
            tokens.step();
            return readExpr(rule, 0);
        }

        private boolean readExpr(Rule rule, int within) {
            if (within > MOST_WITHIN) {
                boolean canStand = tokens.kind == Tokens.NUMBER || tokens.kind == Tokens.WORD
                        || tokens.kind == '(';
                return refuse(canStand ? TOO_MUCH : NOT_HERE);
            }
            if (!readAnd(rule, within)) {
                return false;
            }
            for (int i = 0; i < LONGEST_TEXT && tokens.among("or ") != NONE; i++) {
                tokens.step();
                if (!readAnd(rule, within)) {
                    return false;
                }
                rule.add(Rule.OR);
            }
            return true;
        }

        private boolean readAnd(Rule rule, int within) {
            if (!readNot(rule, within)) {
                return false;
            }
            for (int i = 0; i < LONGEST_TEXT && tokens.among("and ") != NONE; i++) {
                tokens.step();
                if (!readNot(rule, within)) {
                    return false;
                }
                rule.add(Rule.AND);
            }
            return true;
        }

        private boolean readNot(Rule rule, int within) {
            int nots = 0;
            while (nots < MOST_NOTS && tokens.among("not ") != NONE) {
                nots++;
                tokens.step();
            }
            if (nots == MOST_NOTS && tokens.among("not ") != NONE) {
                return refuse(TOO_MUCH);
            }
            if (!readTest(rule, within)) {
                return false;
            }
            for (int i = 0; i < nots; i++) {
                rule.add(Rule.NOT);
            }
            return true;
        }

        private boolean readTest(Rule rule, int within) {
            if (!readSum(rule, within)) {
                return false;
            }
            int sign = tokens.kind;
            if (sign != '<' && sign != '=') {
                return true;
            }
            tokens.step();
            if (!readSum(rule, within)) {
                return false;
            }
            rule.addSign(sign);
            return true;
        }

        private boolean readSum(Rule rule, int within) {
            if (!readProduct(rule, within)) {
                return false;
            }
            for (int i = 0; i < LONGEST_TEXT && (tokens.kind == '+' || tokens.kind == '-'); i++) {
                int sign = tokens.kind;
                tokens.step();
                if (!readProduct(rule, within)) {
                    return false;
                }
                rule.addSign(sign);
            }
            return true;
        }

        private boolean readProduct(Rule rule, int within) {
            if (!readPart(rule, within)) {
                return false;
            }
            for (int i = 0; i < LONGEST_TEXT && (tokens.kind == '*' || tokens.kind == '/'); i++) {
                int sign = tokens.kind;
                tokens.step();
                if (!readPart(rule, within)) {
                    return false;
                }
                rule.addSign(sign);
            }
            return true;
        }

        private boolean readPart(Rule rule, int within) {
            if (tokens.kind == '(') {
                tokens.step();
                return readExpr(rule, within + 1) && takeSign(')');
            }
            if (tokens.kind == Tokens.WORD) {
                return readValue(rule);
            }
            if (!takeNumber(0, LONGEST_NUMBER)) {
                return false;
            }
            rule.add(number);
            return true;
        }

        private boolean readValue(Rule rule) {
            int value = tokens.among(VALUE_WORDS);
            if (value == NONE) {
                return refuse(NO_VALUE);
            }
            rule.addValue(value);
            tokens.step();
            return true;
        }
    }
}
