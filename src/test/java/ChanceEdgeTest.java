/** The edges that the document's words on GUSTS, VIEWS, DEBTS and a WEEK name (promises 31 to 36): a sentence ahead of each. */
public final class ChanceEdgeTest {
    private static final int[][] WEIGHTS = {{1, 1, 1, 1}, {1, 2, 3, 4}, {0, 0, 0, 1}, {0, 0, 1, 0}, {0, 1, 0, 0}, {1, 0, 0, 0},
        {2, 0, 4, 0}, {9, 9, 9, 9}, {3, 3, 0, 3}, {6, 0, 0, 9}, {0, 8, 4, 0}, {9, 9, 9, 8}};
    /** Isle 0 comes down on isle 1, which is on its POST, by a PUSH of 98 or more. */
    private static final String DOWN = "isle 9 10 50 99 1 0 0 0;isle 58 10 9 1 1 1 0 0;wind 5 9 0;";
    /** A reef, of which a PUSH of 50 (half of 100) puts it 1 high, a lesser one 2 high. */
    private static final String REEF = "reef 10 10 2 99 1 0 0 0;isle 11 10 9 1 1 1 0 0;wind 5 9 0;";

    public static void main(String[] args) {
        twentyMoreEach();
        hundredAtMost();
        ofReefsHalf();
        belowNothing();
        withoutAnything();
        gustOfAll();
        gustsByActs();
        eightHours();
        largestFractions();
        hoursOfTheirOwn();
        views();
        bestViews();
        viewsByWind();
        debtsSetOff();
        debtsToTheLowest();
        owedByAll();
        debtsOfSix();
        weeks();
        sixtyAtMost();
        behindItsDay();
        bitsOfSeeds();
        weekByActs();
        Check.finish();
    }

    private static String gusts(int[] weights) {
        return "gusts " + weights[0] + " " + weights[1] + " " + weights[2] + " " + weights[3] + ";";
    }

    private static long together(int[] weights) {
        return weights[0] + weights[1] + weights[2] + weights[3];
    }

    private static long gcd(long a, long b) {
        return b == 0 ? a : gcd(b, a % b);
    }

    private static void gust(String what, TetherSky x, int hour, long upper, long lower) {
        long by = gcd(upper, lower);
        Check.same(what + ", the upper part in " + hour, x.gust(hour, 0), upper / by);
        Check.same(what + ", the lower one in " + hour, x.gust(hour, 1), lower / by);
    }

    private static void calm(String what, TetherSky x, int from, int to, long upper, long lower) {
        long by = gcd(upper, lower);
        Check.same(what + ", the upper part, " + from + " to " + to, x.calm(from, to, 0), upper / by);
        Check.same(what + ", the lower one, " + from + " to " + to, x.calm(from, to, 1), lower / by);
    }

    // ---- gusts ----

    /** "with a strength of 0 to 3 the PUSH of all is 20 more each (100 at most ...)"; "by WEIGHTS, ... in lowest terms" */
    private static void twentyMoreEach() {
        for (int[] weights : WEIGHTS) {
            for (int push : new int[] {0, 37, 38, 39, 57, 58, 77, 78, 97, 98, 100, 101, 9999}) {
                TetherSky x = Check.under(DOWN + gusts(weights) + "push " + push + ";");
                long knocking = 0;
                for (int strength = 0; strength < 4; strength++) {
                    knocking += Math.min(100, push) + 20 * strength >= 98 ? weights[strength] : 0;
                }
                long all = together(weights);
                gust("push " + push, x, 5, knocking, all);
                gust("push " + push, x, 167, knocking, all);
                gust("ahead of the wind", x, 4, 0, 1);
                calm("push " + push, x, 5, 5, all - knocking, all);
                calm("push " + push, x, 4, 5, all - knocking, all);
                calm("push " + push, x, 166, 167, (all - knocking) * (all - knocking), all * all);
                calm("ahead of the wind", x, 0, 4, 1, 1);
            }
        }
    }

    /** 55 by 8 by 100 is 48 far, by 101 it were 49: by 100 both are 7 high and 2 apart, by 90 they are 3 apart. */
    private static void hundredAtMost() {
        TetherSky x = Check.under("isle 20 10 55 99 1 0 0 0;isle 13 10 60 99 1 0 0 0;wind 0 8 0;push 90;gusts 1 1 1 1;");
        gust("by 90, 100, 100, 100", x, 0, 3, 4);
        TetherSky full = Check.under("isle 20 10 55 99 1 0 0 0;isle 13 10 60 99 1 0 0 0;wind 0 8 0;push 101;gusts 1 1 1 1;");
        gust("by 100 each", full, 0, 4, 4);
        Check.same("without a gust", full.knock(0, 0, 1), 1);
    }

    /** "of reefs half of it, cut down, then" */
    private static void ofReefsHalf() {
        for (int push : new int[] {0, 39, 40, 41, 59, 60, 79, 80, 99, 100, 200}) {
            TetherSky x = Check.under(REEF + "gusts 1 2 3 4;push " + push + ";");
            int knocking = 0;
            for (int strength = 0; strength < 4; strength++) {
                knocking += Math.min(100, push) + 20 * strength >= 100 ? strength + 1 : 0;
            }
            gust("a reef's push " + push, x, 5, knocking, 10);
            Check.same("without a gust", x.where(0, 5, 3), Math.min(100, push) / 2);
        }
    }

    /** The rule's PUSH is kept to 0 to 100, then the gusts come: 0, 20, 40, 60. An isle is 1 high by 50 or more. */
    private static void belowNothing() {
        for (String rule : new String[] {"0-1", "0-20", "0-500", "0", "8192*8192*32"}) {
            TetherSky x = Check.under(REEF.replace("reef", "isle") + "gusts 1 1 1 4;push " + rule + ";");
            gust("push " + rule, x, 5, 4, 7);
        }
        TetherSky x = Check.under(REEF.replace("reef", "isle") + "gusts 1 1 1 4;push 10;");
        gust("10, 30, 50, 70", x, 5, 5, 7);
    }

    /** "1, 0, 0, 0 without" */
    private static void withoutAnything() {
        TetherSky x = Check.under(DOWN);
        gust("50 alone", x, 5, 0, 1);
        TetherSky two = Check.under("isle 9 10 9 9 1 0 0 0;isle 10 10 9 9 1 0 0 0;");
        gust("always", two, 0, 1, 1);
        calm("never", two, 0, 7, 0, 1);
        TetherSky one = Check.under("isle 9 10 9 9 1 0 0 0;gusts 3 3 3 3;");
        gust("one alone", one, 0, 0, 1);
        calm("one alone", one, 160, 167, 1, 1);
        TetherSky none = Check.under("gusts 2 3 4 5;");
        gust("no ISLES", none, 0, 0, 1);
        calm("no ISLES", none, 0, 7, 1, 1);
        TetherSky half = Check.under(DOWN + "gusts 1 1 1 1;");
        gust("50, 70, 90, 100", half, 5, 1, 4);
    }

    /** Both are blown by one gust: by 20 and 10 yards, by 28 and 14 .., from 30 apart to 10 apart by 100 alone. */
    private static void gustOfAll() {
        TetherSky x = Check.under("isle 5 10 40 99 3 0 0 0;isle 22 10 20 99 2 0 0 0;wind 0 9 0;gusts 1 2 3 4;");
        int knocking = 0;
        int[] push = {50, 70, 90, 100};
        for (int strength = 0; strength < 4; strength++) {
            int far = 22 + 20 * push[strength] / 100 - 5 - 40 * push[strength] / 100;
            int high = 40 - 40 * push[strength] / 100 - 20 + 20 * push[strength] / 100;
            knocking += Math.abs(far) <= 5 && Math.abs(high) <= 1 ? strength + 1 : 0;
        }
        Check.same("by 100 alone", knocking, 4);
        gust("both", x, 0, 4, 10);
    }

    private static void gustsByActs() {
        TetherSky x = Check.under(DOWN + "gusts 1 1 1 1;push 98;");
        gust("all", x, 5, 4, 4);
        x.winch(0, 60);
        gust("60 less 58, 60 less 60", x, 5, 0, 4);
        x.winch(0, 49);
        gust("49 less 48", x, 5, 4, 4);
        for (int i = 0; i < 4; i++) {
            x.knot(0, true);
        }
        gust("45, so too far", x, 5, 0, 4);
    }

    // ---- calms ----

    /** "in no HOUR of a SPAN of at most 8, each with its own GUST" */
    private static void eightHours() {
        TetherSky x = Check.under(DOWN + "gusts 1 2 3 4;push 58;");
        long upper = 1;
        long lower = 1;
        for (int hours = 1; hours <= 8; hours++) {
            upper *= 3;
            lower *= 10;
            calm(hours + " HOURS", x, 5, 4 + hours, upper, lower);
            calm("the last " + hours, x, 168 - hours, 167, upper, lower);
            calm("one ahead of the wind", x, 5 - (hours < 8 ? 1 : 0), 4 + hours, upper, lower);
        }
        Check.same("6561", x.calm(5, 12, 0), 6561);
        Check.same("100000000", x.calm(5, 12, 1), 100000000);
        Check.illegal("9 HOURS", () -> x.calm(5, 13, 0));
        Check.illegal("9 HOURS, the lower part", () -> x.calm(159, 167, 1));
        Check.illegal("8 beyond the week", () -> x.calm(161, 168, 0));
    }

    private static void largestFractions() {
        TetherSky x = Check.under(DOWN + "gusts 9 9 9 8;push 38;");
        Check.same("27 by 35, eight times", x.calm(5, 12, 0), 282429536481L);
        Check.same("the lower part", x.calm(5, 12, 1), 2251875390625L);
        TetherSky all = Check.under(DOWN + "gusts 9 9 9 9;push 38;");
        Check.same("27 by 36, eight times", all.calm(5, 12, 0), 6561);
        Check.same("the lower part", all.calm(5, 12, 1), 65536);
        TetherSky never = Check.under(DOWN + "gusts 9 9 9 9;push 98;");
        calm("never", never, 5, 12, 0, 1);
        calm("not in all", never, 0, 5, 0, 1);
        calm("ahead of it", never, 0, 4, 1, 1);
    }

    private static void hoursOfTheirOwn() {
        TetherSky x = Check.under(DOWN + "gusts 1 2 3 4;push 38+20*(hour=6)+20*(hour=7)+40*(hour=8);");
        long[] free = {6, 3, 3, 1, 6};
        long upper = 1;
        long lower = 1;
        for (int hour = 5; hour <= 9; hour++) {
            upper *= free[hour - 5];
            lower *= 10;
            gust("in its HOUR", x, hour, 10 - free[hour - 5], 10);
            calm("to " + hour, x, 5, hour, upper, lower);
        }
    }

    // ---- views ----

    private static void view(TetherSky x, int isle, int lower, int yards, int then) {
        Check.same("VIEW of " + isle, x.view(isle, 0, 0), lower);
        Check.same("yards of " + isle, x.view(isle, 0, 1), yards);
        Check.same("how many are lower then, of " + isle, x.view(isle, 0, 2), then);
    }

    /** "how many others are lower" */
    private static void views() {
        TetherSky x = Check.under("isle 0 0 9 9 1 0 0 0;isle 30 0 9 9 1 0 0 0;isle 60 0 8 9 1 0 0 0;isle 0 60 10 9 1 0 0 0;"
                + "isle 30 60 60 1 1 1 0 0;");
        view(x, 0, 2, 2, 4);
        view(x, 1, 2, 2, 4);
        view(x, 2, 1, 3, 4);
        view(x, 3, 4, 0, 4);
        view(x, 4, 0, 0, 0);
        TetherSky one = Check.under("isle 0 0 9 9 1 0 0 0;");
        view(one, 0, 0, 0, 0);
        Check.same("nothing is let out", x.isle(0, 3) * 100 + x.isle(2, 3), 908);
        Check.same("no ACT", x.count(5), 0);
    }

    /** "the fewest yards (0 to 60 less ROPE) more with which its VIEW is best" */
    private static void bestViews() {
        for (int other = 50; other <= 60; other++) {
            for (int rope = 55; rope <= 60; rope++) {
                TetherSky x = Check.under("isle 0 0 " + rope + " 9 1 0 0 0;isle 30 0 " + other + " 9 1 0 0 0;");
                boolean now = rope > other;
                boolean ever = other < 60;
                int yards = now || !ever ? 0 : other + 1 - rope;
                view(x, 0, now ? 1 : 0, yards, ever ? 1 : 0);
            }
        }
        TetherSky far = Check.under("isle 0 0 1 9 1 0 0 0;isle 30 0 59 9 1 0 0 0;isle 60 0 30 9 1 0 0 0;");
        view(far, 0, 0, 59, 2);
        far.winch(1, 60);
        view(far, 0, 0, 30, 1);
        far.winch(2, 60);
        view(far, 0, 0, 0, 0);
        far.knot(1, true);
        view(far, 0, 0, 59, 1);
        far.knot(0, true);
        view(far, 0, 0, 0, 0);
        far.winch(1, 50);
        far.winch(0, 20);
        view(far, 0, 0, 31, 1);
        far.winch(0, 60);
        view(far, 0, 1, 0, 1);
    }

    private static void viewsByWind() {
        TetherSky x = Check.under("isle 0 0 10 99 1 0 0 0;isle 30 0 7 99 1 0 0 0;push (rope<12)*100;wind 5 9 0;wind 6 0 0;");
        Check.same("both are down", x.view(0, 5, 0), 0);
        Check.same("two yards, and the rule lets it rise", x.view(0, 5, 1) * 10 + x.view(0, 5, 2), 21);
        Check.same("an HOUR ahead", x.view(0, 4, 0) * 10 + x.view(0, 4, 1), 10);
        Check.same("an HOUR behind", x.view(1, 6, 1) * 10 + x.view(1, 6, 2), 41);
        TetherSky gusty = Check.under("isle 0 0 10 99 1 0 0 0;isle 30 0 5 1 1 1 0 0;push 80;wind 0 9 0;gusts 0 0 0 1;");
        view(gusty, 0, 1, 0, 1);
        TetherSky down = Check.under("isle 0 0 10 99 1 0 0 0;isle 30 0 5 1 1 1 0 0;push 100-(rope=60)*20;wind 0 9 0;gusts 0 0 0 1;");
        view(down, 0, 0, 50, 1);
    }

    // ---- debts ----

    /** In HOURS 0 to 2 of a DAY isle 1 is 3 below isle 0, else 4 above it. */
    private static final String IN_TURN = "isle 10 10 10 50 6 0 0 0;isle 8 10 14 50 5 0 0 0;wind 0 9 0;push 50*(size=5)*(hour<3);";

    /** "what two owe each other is set off"; "NONE: nobody is owed anything" */
    private static void debtsSetOff() {
        TetherSky x = Check.under(IN_TURN);
        for (int from = 0; from <= 4; from++) {
            for (int to = from; to <= 30; to++) {
                int left = 0;
                for (int hour = from; hour <= to; hour++) {
                    left += hour % 24 < 3 ? 1 : -1;
                }
                Check.same("1 owes 0, " + from + " to " + to, x.debt(1, 0, from, to), Math.max(0, left));
                Check.same("0 owes 1, " + from + " to " + to, x.debt(0, 1, from, to), Math.max(0, -left));
                Check.same("who is owed most, " + from + " to " + to, x.rich(from, to), left == 0 ? -1 : left > 0 ? 0 : 1);
            }
        }
        Check.same("the week", x.debt(0, 1, 0, 167), 7 * 21 - 7 * 3);
        TetherSky none = Check.under("isle 10 10 10 50 2 0 0 0;isle 12 10 11 50 2 0 0 0;");
        Check.same("not in THE SHADE", none.debt(0, 1, 0, 167) + none.debt(1, 0, 0, 167), 0);
        Check.same("nobody", none.rich(0, 167), -1);
        none.winch(1, 12);
        Check.same("all HOURS", none.debt(0, 1, 0, 167), 168);
        Check.same("one HOUR", none.debt(0, 1, 167, 167), 1);
        Check.same("the higher one", none.rich(0, 0), 1);
    }

    /** "to the one whose SHADE it is in (to the lowest of these)" */
    private static void debtsToTheLowest() {
        TetherSky x = Check.under("isle 10 10 5 99 2 0 0 0;isle 11 10 12 99 2 0 0 0;isle 12 10 10 99 2 0 0 0;");
        Check.same("to the lowest", x.debt(0, 2, 0, 9), 10);
        Check.same("not to the other", x.debt(0, 1, 0, 9), 0);
        Check.same("the lowest owes as well", x.debt(2, 1, 0, 9), 10);
        Check.same("nothing back", x.debt(2, 0, 0, 9) + x.debt(1, 2, 0, 9), 0);
        Check.same("of like ones the least", x.rich(0, 9), 1);
        x.winch(1, 10);
        Check.same("of like ones the least", x.debt(0, 1, 0, 9), 10);
        Check.same("not to the other", x.debt(0, 2, 0, 9), 0);
        TetherSky gusty = Check.under("isle 30 30 9 1 1 1 0 0;isle 17 30 20 50 1 0 0 0;wind 0 9 0;gusts 0 1 1 1;");
        Check.same("no gust blows", gusty.debt(0, 1, 0, 9), 0);
        Check.same("so nobody", gusty.rich(0, 9), -1);
    }

    /** "who is owed most by all (of like ones the least), of what is left" */
    private static void owedByAll() {
        TetherSky x = Check.under("isle 10 10 5 99 1 0 0 0;isle 10 11 9 99 1 0 0 0;isle 40 10 5 99 1 0 0 0;"
                + "isle 43 10 5 99 1 0 0 0;isle 42 10 9 99 1 0 0 0;");
        Check.same("by one", x.debt(0, 1, 0, 4), 5);
        Check.same("by two", x.debt(2, 4, 0, 4) + x.debt(3, 4, 0, 4), 10);
        Check.same("owed most by two together", x.rich(0, 4), 4);
        x.winch(3, 8);
        Check.same("of like ones the least", x.rich(0, 4), 1);
        x.winch(0, 8);
        Check.same("one alone", x.rich(0, 4), 4);
        x.winch(2, 8);
        Check.same("nobody", x.rich(0, 4), -1);
        x.undo();
        Check.same("asked again", x.rich(0, 0), 4);
        TetherSky y = Check.under(IN_TURN + "isle 60 60 5 99 1 0 0 0;isle 60 59 9 99 1 0 0 0;");
        Check.same("1 of 3 less 2, the other of 5", y.rich(0, 4), 3);
        Check.same("3 and 3", y.rich(0, 2), 0);
        Check.same("what is set off is no wealth", y.rich(0, 5), 3);
    }

    /** Of six ISLES one below the five others, which are below none, or each but the highest below the next higher one. */
    private static void debtsOfSix() {
        for (int low = 0; low < 6; low++) {
            StringBuilder one = new StringBuilder();
            StringBuilder row = new StringBuilder();
            for (int i = 0; i < 6; i++) {
                one.append("isle ").append(10 + i).append(" 10 ").append(i == low ? 9 : 30).append(" 9 5 0 0 0;");
                row.append("isle ").append(10 + i).append(" 10 ").append(10 + 2 * ((i + low) % 6)).append(" 9 5 0 0 0;");
            }
            TetherSky x = Check.under(one.toString());
            TetherSky y = Check.under(row.toString());
            int least = low == 0 ? 1 : 0;
            Check.same("the least of like ones is owed", x.rich(0, 9), least);
            Check.same("each is owed by one: the least", y.rich(0, 9), low == 0 ? 1 : 0);
            for (int i = 0; i < 6; i++) {
                for (int k = 0; k < 6; k++) {
                    if (i != k) {
                        Check.same(i + " owes " + k, x.debt(i, k, 0, 9), i == low && k == least ? 10 : 0);
                        boolean next = (i + low) % 6 + 1 == (k + low) % 6;
                        Check.same(i + " owes " + k + " in a row", y.debt(i, k, 0, 9), next ? 10 : 0);
                    }
                }
                Check.same("VIEW of " + i, x.view(i, 5, 0), i == low ? 0 : 1);
                Check.same("VIEW of " + i + " in a row", y.view(i, 5, 0), (i + low) % 6);
                Check.same("best of " + i + " in a row", y.view(i, 5, 1) * 10 + y.view(i, 5, 2),
                        (i + low) % 6 == 5 ? 5 : 10 * (21 - 10 - 2 * ((i + low) % 6)) + 5);
            }
        }
    }

    // ---- weeks ----

    private static final int[] SEEDS = {0, 1, -1, 2, 5, 42, 12345, 65536, 1 << 30, -77777, 1103515245, Integer.MIN_VALUE,
        Integer.MAX_VALUE};

    /** Isles in a row, each OVER its neighbours; blown down and along by their lines from HOUR 30 to 99. */
    private static void week(int[] ropes, int seed, boolean windy) {
        StringBuilder text = new StringBuilder(windy ? "push 100;wind 30 9 0;wind 100 0 0;" : "");
        for (int i = 0; i < ropes.length; i++) {
            text.append("isle ").append(8 * i).append(" 9 ").append(ropes[i]).append(" 99 4 0 0 0;");
        }
        TetherSky x = Check.under(text.toString());
        int[] rope = ropes.clone();
        int hours = 0;
        int grown = seed;
        for (int day = 0; day < 7; day++) {
            grown = (int) (grown * 1103515245L + 12345L);
            int drawn = (int) ((grown & 0xffffffffL) / 65536 % 32768) % ropes.length;
            grown = (int) (grown * 1103515245L + 12345L);
            int yards = 1 + (int) ((grown & 0xffffffffL) / 65536 % 32768) % 9;
            rope[drawn] = rope[drawn] + yards > 60 ? 60 : rope[drawn] + yards;
            for (int hour = 24 * day; hour < 24 * day + 24; hour++) {
                hours += knocks(rope, windy && hour >= 30 && hour < 100) ? 1 : 0;
            }
        }
        Check.same("HOURS by " + seed, x.week(seed, -1), hours);
        for (int i = 0; i < rope.length; i++) {
            Check.same("ROPE " + i + " by " + seed, x.week(seed, i), rope[i]);
            Check.same("ROPE " + i + " stays", x.isle(i, 3), ropes[i]);
        }
    }

    private static boolean knocks(int[] rope, boolean blown) {
        for (int one = 0; one < rope.length; one++) {
            for (int two = one + 1; two < rope.length; two++) {
                int far = 8 * (two - one) + (blown ? rope[two] - rope[one] : 0);
                int high = blown ? 0 : rope[two] - rope[one];
                if (Math.abs(far) <= 8 && Math.abs(high) <= 1) {
                    return true;
                }
            }
        }
        return false;
    }

    /** "each DAY an ISLE is drawn, then 1 and a DRAW of 9 yards": of one ISLE to six. */
    private static void weeks() {
        for (int seed : SEEDS) {
            week(new int[] {9}, seed, false);
            week(new int[] {10, 20}, seed, false);
            week(new int[] {10, 12, 14}, seed, true);
            week(new int[] {5, 10, 9, 20}, seed, true);
            week(new int[] {1, 2, 9, 9, 3}, seed, true);
            week(new int[] {9, 20, 11, 30, 12, 40}, seed, false);
            week(new int[] {9, 9, 11, 13, 12, 10}, seed, true);
        }
        TetherSky none = Check.under("wind 3 4 5;");
        for (int seed : SEEDS) {
            Check.same("without ISLES", none.week(seed, -1), 0);
        }
        Check.noSuch("no ISLE", () -> none.week(1, 0));
    }

    /** "it is let out so much (60 at most)" */
    private static void sixtyAtMost() {
        for (int seed : SEEDS) {
            for (int rope = 1; rope <= 60; rope += rope == 1 ? 49 : 1) {
                week(new int[] {rope}, seed, false);
            }
            week(new int[] {60, 59}, seed, false);
            week(new int[] {60, 60, 60}, seed, true);
        }
        Check.same("60 stays 60", Check.under("isle 1 1 60 9 1 0 0 0;").week(3, 0), 60);
    }

    /** "each by ropes as they are behind its DAY's draw": two at one height, till the first draw parts them. */
    private static void behindItsDay() {
        for (int seed = 0; seed < 60; seed++) {
            week(new int[] {10, 10}, seed, false);
            week(new int[] {10, 12}, seed, false);
        }
    }

    /** "A seed becomes itself times 1103515245 and 12345 (an int that wraps); a DRAW of n is its bits 16 to 30 MOD n then." */
    private static void bitsOfSeeds() {
        TetherSky x = Check.under("isle 1 1 1 99 1 0 0 0;");
        // by seed 0: 12345, -740551042, ..; every second one draws 1 and (bits 16 to 30 MOD 9) yards
        int due = 1;
        long grown = 0;
        for (int i = 1; i <= 14; i++) {
            grown = (grown * 1103515245L + 12345L) & 0xffffffffL;
            due += i % 2 == 0 ? 1 + (int) (grown >> 16 & 0x7fff) % 9 : 0;
        }
        Check.same("ROPE by seed 0", x.week(0, 0), Math.min(60, due));
        Check.same("asked again", x.week(0, 0), Math.min(60, due));
    }

    /** "all else as it is" */
    private static void weekByActs() {
        TetherSky x = Check.under("isle 1 1 10 99 1 0 0 0;isle 2 1 40 99 1 0 0 0;");
        x.winch(0, 60);
        Check.same("60 stays", x.week(5, 0), 60);
        TetherSky posts = Check.under("isle 1 1 10 9 1 0 0 0;isle 2 1 40 9 1 0 0 0;");
        posts.load(0, 60);
        posts.load(1, 60);
        Check.same("both are on their POSTS", posts.week(5, -1), 168);
        TetherSky knots = Check.under("isle 1 1 1 99 1 0 0 0;isle 2 1 60 99 1 0 0 0;");
        for (int i = 0; i < 60; i++) {
            knots.knot(0, true);
            knots.knot(1, true);
        }
        Check.same("no LINE is left", knots.week(5, -1), 168);
        TetherSky gusty = Check.under("isle 9 10 50 99 6 0 0 0;isle 58 10 9 1 6 1 0 0;wind 5 9 0;push 80;gusts 0 1 1 1;");
        Check.same("no gust blows", gusty.week(5, -1), 0);
        TetherSky strong = Check.under("isle 9 10 50 99 6 0 0 0;isle 58 10 9 1 6 1 0 0;wind 5 9 0;push 100;gusts 0 1 1 1;");
        Check.same("from HOUR 5 on", strong.week(5, -1), 163);
    }
}
