/** Promises 31 to 36: gusts, views, debts, a week by a seed. */
public final class ChanceTest {
    public static void main(String[] args) {
        gusts();
        gustsAndRules();
        calms();
        views();
        debts();
        weeks();
        weekOfNone();
        Check.finish();
    }

    private static void fraction(String what, long upper, long lower, long dueUpper, long dueLower) {
        Check.same(what + ", upper", upper, dueUpper);
        Check.same(what + ", lower", lower, dueLower);
    }

    /** The isle comes down on the reef: a push of 50, 70, 90, 100 puts it 10, 6, 2, 0 high. */
    private static final String DOWN = "isle 10 10 20 99 6 0 0 0;isle 40 10 1 99 6 0 0 0;wind 5 9 0;";

    private static void gusts() {
        TetherSky x = Check.under("isle 10 10 20 99 6 0 0 0;isle 26 10 2 99 6 0 0 0;wind 5 9 0;gusts 1 2 3 4;");
        fraction("no wind", x.gust(4, 0), x.gust(4, 1), 0, 1);
        int together = 0;
        int[] push = {50, 70, 90, 100};
        for (int i = 0; i < 4; i++) {
            int one = 20 * push[i] / 100;
            int two = 2 * push[i] / 100;
            boolean knocks = Math.abs(26 + two - 10 - one) <= 12 && Math.abs(20 - one - 2 + two) <= 1;
            together += knocks ? i + 1 : 0;
        }
        Check.same("two strengths knock", together, 7);
        fraction("wind", x.gust(5, 0), x.gust(5, 1), 7, 10);
        TetherSky like = Check.under("isle 1 1 9 9 1 0 0 0;isle 2 1 9 9 1 0 0 0;gusts 3 3 0 3;");
        fraction("always", like.gust(0, 0), like.gust(0, 1), 1, 1);
        TetherSky lowest = Check.under("isle 10 10 20 99 6 0 0 0;isle 26 10 2 99 6 0 0 0;wind 5 9 0;gusts 2 0 4 0;");
        fraction("lowest terms", lowest.gust(5, 0), lowest.gust(5, 1), 2, 3);
        Check.noSuch("hour", () -> x.gust(168, 0));
        Check.noSuch("hour", () -> x.gust(-1, 0));
        Check.noSuch("what", () -> x.gust(0, 2));
        Check.noSuch("what", () -> x.gust(0, -1));
        fraction("without isles", new TetherSky().gust(0, 0), new TetherSky().gust(0, 1), 0, 1);
        Check.same("the push told is without", Check.under(DOWN).where(0, 5, 3), 50);
    }

    /** The rule is kept to 0 to 100 first; a reef has half of all. */
    private static void gustsAndRules() {
        TetherSky below = Check.under("isle 0 10 10 99 1 0 0 0;isle 4 10 8 20 1 20 0 0;wind 0 9 0;"
                + "push 0-500;gusts 0 0 0 1;");
        fraction("0 and 60: 6 aside, 4 high, none is on a post there", below.gust(0, 0), below.gust(0, 1), 0, 1);
        TetherSky reef = Check.under("reef 0 10 10 99 1 0 0 0;isle 4 10 8 20 1 20 0 0;wind 0 9 0;"
                + "push 0-500;gusts 0 0 0 1;");
        fraction("30: 3 aside, 7 high", reef.gust(0, 0), reef.gust(0, 1), 0, 1);
        TetherSky meets = Check.under("reef 0 10 10 99 1 0 0 0;reef 3 10 7 99 1 0 0 0;wind 0 9 0;"
                + "push 0-500;gusts 0 0 0 1;");
        fraction("30: 3 and 7 high, 5 and 5 high", meets.gust(0, 0), meets.gust(0, 1), 0, 1);
        TetherSky full = Check.under("isle 0 10 10 99 1 0 0 0;isle 11 10 1 1 1 20 0 0;wind 0 9 0;"
                + "push 500;gusts 1 1 1 1;");
        fraction("100 at most: on the ground at 10", full.gust(0, 0), full.gust(0, 1), 1, 1);
        TetherSky half = Check.under("reef 0 10 10 99 1 0 0 0;isle 5 10 5 99 1 0 0 0;wind 0 9 0;"
                + "push 100*size;gusts 1 1 1 1;");
        fraction("a reef's half of 100", half.gust(0, 0), half.gust(0, 1), 0, 1);
    }

    private static void calms() {
        TetherSky x = Check.under("isle 10 10 20 99 6 0 0 0;isle 26 10 2 99 6 0 0 0;wind 5 9 0;gusts 1 2 3 4;");
        fraction("no wind", x.calm(0, 4, 0), x.calm(0, 4, 1), 1, 1);
        fraction("two hours", x.calm(4, 6, 0), x.calm(4, 6, 1), 9, 100);
        fraction("eight hours", x.calm(5, 12, 0), x.calm(5, 12, 1), 6561, 100000000);
        Check.illegal("nine hours", () -> x.calm(5, 13, 0));
        Check.noSuch("what is ahead", () -> x.calm(5, 13, 2));
        TetherSky big = Check.under("isle 10 10 20 99 6 0 0 0;isle 26 10 2 99 6 0 0 0;wind 5 9 0;gusts 9 9 9 8;");
        int knocking = big.gust(5, 0);
        int all = big.gust(5, 1);
        Check.same("17 of 35", knocking * 100 + all, 1735);
        fraction("a long row", big.calm(5, 12, 0), big.calm(5, 12, 1), 11019960576L, 2251875390625L);
        TetherSky never = Check.under("isle 1 1 9 9 1 0 0 0;isle 2 1 9 9 1 0 0 0;gusts 9 9 9 9;");
        fraction("never", never.calm(0, 7, 0), never.calm(0, 7, 1), 0, 1);
    }

    private static void views() {
        TetherSky x = Check.under("isle 0 0 9 9 1 0 0 0;isle 30 0 12 9 1 0 0 0;isle 60 0 9 9 1 0 0 0;"
                + "isle 0 60 60 9 1 0 0 0;isle 60 60 5 9 1 20 0 0;");
        int[] due = {1, 3, 1, 4, 0};
        int[] yards = {4, 0, 4, 0, 0};
        int[] then = {3, 3, 3, 4, 0};
        for (int isle = 0; isle < 5; isle++) {
            Check.same("view of " + isle, x.view(isle, 0, 0), due[isle]);
            Check.same("yards of " + isle, x.view(isle, 0, 1), yards[isle]);
            Check.same("best of " + isle, x.view(isle, 0, 2), then[isle]);
        }
        Check.same("nothing is let out", x.isle(0, 3), 9);
        TetherSky ruled = Check.under("isle 0 0 10 99 1 0 0 0;isle 30 0 12 9 1 0 0 0;wind 0 9 0;push (10<rope)*100;");
        Check.same("the rule sees the rope", ruled.view(0, 0, 1) * 10 + ruled.view(0, 0, 2), 1);
        Check.noSuch("isle", () -> x.view(5, 0, 0));
        Check.noSuch("hour", () -> x.view(0, 168, 0));
        Check.noSuch("what", () -> x.view(0, 0, 3));
        Check.noSuch("what", () -> x.view(0, 0, -1));
    }

    private static void debts() {
        TetherSky x = Check.under("isle 10 10 5 99 2 0 0 0;isle 11 10 10 99 2 0 0 0;isle 12 10 20 99 2 0 0 0;"
                + "wind 10 0 0;push 0;");
        Check.same("to the lowest", x.debt(0, 1, 0, 9), 10);
        Check.same("not to the highest", x.debt(0, 2, 0, 9), 0);
        Check.same("one yard an hour", x.debt(1, 2, 3, 3), 1);
        Check.same("nothing back", x.debt(1, 0, 0, 9), 0);
        Check.same("of like ones the least", x.rich(0, 9), 1);
        TetherSky none = Check.under("isle 10 10 5 99 2 0 0 0;isle 50 10 10 99 2 0 0 0;");
        Check.same("nobody is owed anything", none.rich(0, 167), -1);
        TetherSky turns = Check.under("isle 10 10 20 99 6 0 0 0;reef 12 10 18 99 6 0 0 0;wind 3 0 9;wind 8 0 0;");
        int first = hours(turns, 0, 1, 0, 10);
        int second = hours(turns, 1, 0, 0, 10);
        Check.same("both owe", first > 0 && second > 0 && first != second, true);
        Check.same("set off", turns.debt(0, 1, 0, 10), Math.max(first - second, 0));
        Check.same("set off", turns.debt(1, 0, 0, 10), Math.max(second - first, 0));
        Check.same("who is owed", turns.rich(0, 10), first > second ? 1 : 0);
        Check.noSuch("isle", () -> x.debt(3, 0, 0, 1));
        Check.noSuch("isle", () -> x.debt(0, 3, 0, 1));
        Check.illegal("both are one", () -> x.debt(1, 1, 0, 1));
    }

    private static int hours(TetherSky x, int one, int two, int from, int to) {
        int hours = 0;
        for (int hour = from; hour <= to; hour++) {
            hours += x.between(one, two, hour, 2) ? 1 : 0;
        }
        return hours;
    }

    private static void weeks() {
        TetherSky x = Check.under("isle 10 10 5 99 2 0 0 0;isle 11 10 10 99 2 0 0 0;isle 12 10 20 99 2 0 0 0;");
        int[] seeds = {0, 1, -1, 5, 1234567, Integer.MIN_VALUE, Integer.MAX_VALUE};
        for (int seed : seeds) {
            int[] rope = {5, 10, 20};
            int hours = 0;
            int grown = seed;
            for (int day = 0; day < 7; day++) {
                grown = grown * 1103515245 + 12345;
                int isle = (grown >> 16 & 0x7fff) % 3;
                grown = grown * 1103515245 + 12345;
                rope[isle] = Math.min(60, rope[isle] + 1 + (grown >> 16 & 0x7fff) % 9);
                boolean knocks = Math.abs(rope[0] - rope[1]) <= 1 || Math.abs(rope[0] - rope[2]) <= 1
                        || Math.abs(rope[1] - rope[2]) <= 1;
                hours += knocks ? 24 : 0;
            }
            Check.same("hours by " + seed, x.week(seed, -1), hours);
            for (int isle = 0; isle < 3; isle++) {
                Check.same("rope " + isle + " by " + seed, x.week(seed, isle), rope[isle]);
            }
        }
        Check.same("no rope is let out", x.isle(0, 3) + x.isle(1, 3) + x.isle(2, 3), 35);
        Check.noSuch("isle", () -> x.week(0, 3));
        Check.noSuch("isle", () -> x.week(0, -2));
        TetherSky high = Check.under("isle 10 10 59 99 2 0 0 0;");
        Check.same("60 at most", high.week(7, 0), 60);
        Check.same("one alone", high.week(7, -1), 0);
    }

    private static void weekOfNone() {
        TetherSky x = new TetherSky();
        Check.same("without isles", x.week(9, -1), 0);
        Check.noSuch("isle", () -> x.week(9, 0));
    }
}
