/** The edges that the document's words on where isles are name (==== 2., promises 6 to 10): a sentence ahead of each. */
public final class AirEdgeTest {
    public static void main(String[] args) {
        quarters();
        weights();
        lifts();
        lines();
        onItsPost();
        windOfAnHour();
        keptPush();
        reefs();
        withoutRule();
        cutDown();
        greaterOfBoth();
        valuesNow();
        hoursAndDays();
        fromTheLeft();
        numbersWrap();
        divided();
        oneOrZero();
        binding();
        over();
        knocks();
        shades();
        bridges();
        rains();
        rainOfSix();
        betweenNow();
        leanings();
        churchHours();
        Check.finish();
    }

    // ---- promise 6 ----

    /** "at first a quarter of them on each, the first SIDES one more each, if it doesn't come out" */
    private static void quarters() {
        for (int people = 0; people <= 20; people++) {
            TetherSky x = Check.under("isle 9 9 9 9 1 7 0 0;isle 1 1 9 9 1 " + people + " 0 0;");
            for (int side = 0; side < 4; side++) {
                int due = people / 4 + (side < people % 4 ? 1 : 0);
                Check.same(people + " people, side " + side, x.isle(1, 12 + side), due);
            }
            Check.same("together", x.isle(1, 6), people);
            Check.same("of the first one still", x.isle(0, 12) * 10 + x.isle(0, 15), 21);
        }
        StringBuilder text = new StringBuilder();
        for (int isle = 0; isle < 6; isle++) {
            text.append("isle ").append(isle).append(" 1 9 9 1 ").append(4 * (isle % 5) + isle % 3).append(" 0 0;");
        }
        TetherSky six = Check.under(text.toString());
        for (int isle = 0; isle < 6; isle++) {
            int quarter = isle % 5;
            Check.same("north of " + isle, six.isle(isle, 12), quarter + (isle % 3 > 0 ? 1 : 0));
            Check.same("east of " + isle, six.isle(isle, 13), quarter + (isle % 3 > 1 ? 1 : 0));
            Check.same("south of " + isle, six.isle(isle, 14), quarter);
            Check.same("west of " + isle, six.isle(isle, 15), quarter);
        }
    }

    /** "THE WEIGHT of an ISLE: PEOPLE, LOAD, and 2 for each GOAT; of a hill 5 more." */
    private static void weights() {
        TetherSky x = Check.under("isle 1 1 9 9 1 0 0 0;hill 2 1 9 9 1 0 0 0;reef 3 1 9 9 1 0 0 0;"
                + "isle 4 1 9 9 1 20 60 9;hill 5 1 9 99 1 20 60 9;reef 6 1 9 99 1 1 1 1;");
        int[] due = {0, 5, 0, 98, 103, 4};
        for (int isle = 0; isle < due.length; isle++) {
            Check.same("weight of " + isle, x.isle(isle, 10), due[isle]);
        }
        Check.same("99 is not enough", x.isle(4, 11), 0);
        x.load(0, 60);
        x.goat(5, 0, 0);
        Check.same("behind an act", x.isle(0, 10), 60);
    }

    /** "It FLOATS, if LIFT is more than THE WEIGHT" */
    private static void lifts() {
        String[] kinds = {"isle", "hill", "reef"};
        for (int kind = 0; kind < 3; kind++) {
            int weight = 4 + 3 + 2 + (kind == 1 ? 5 : 0);
            for (int lift = weight - 1; lift <= weight + 1; lift++) {
                TetherSky x = Check.under(kinds[kind] + " 5 6 20 " + lift + " 1 4 3 1;");
                boolean floats = lift > weight;
                Check.same(kinds[kind] + " by " + lift, x.isle(0, 11), floats ? 1 : 0);
                Check.same("high by " + lift, x.where(0, 0, 2), floats ? 20 : 0);
                Check.same("push by " + lift, x.where(0, 0, 3), floats ? kind == 2 ? 25 : 50 : 0);
            }
        }
        TetherSky x = Check.under("isle 5 6 20 10 1 0 0 0;");
        for (int load = 8; load <= 11; load++) {
            x.load(0, load);
            Check.same("a load of " + load, x.isle(0, 11), load < 10 ? 1 : 0);
        }
    }

    /** "LINE: ROPE less KNOTS (0 at least)"; "and LINE isn't 0" */
    private static void lines() {
        TetherSky x = Check.under("isle 5 6 3 10 1 0 0 0;wind 9 9 9;push 100;");
        int[] line = {3, 2, 1, 0, 0, 0};
        for (int knots = 0; knots < line.length; knots++) {
            Check.same("floats with " + knots, x.isle(0, 11), line[knots] > 0 ? 1 : 0);
            Check.same("high with " + knots, x.where(0, 0, 2), line[knots]);
            Check.same("blown with " + knots, x.where(0, 9, 0), 5 + line[knots]);
            Check.same("down with " + knots, x.where(0, 9, 2), 0);
            Check.same("push with " + knots, x.where(0, 9, 3), line[knots] > 0 ? 100 : 0);
            Check.same("the rope stays", x.isle(0, 3), 3);
            x.knot(0, true);
        }
        x.winch(0, 7);
        Check.same("7 less 6", x.where(0, 0, 2), 1);
    }

    /** "An ISLE that doesn't FLOAT is on its POST, 0 high." */
    private static void onItsPost() {
        TetherSky x = Check.under("isle 5 6 60 1 1 1 0 0;isle 60 0 60 9 1 0 0 0;wind 0 9 -9;push 100;");
        x.load(1, 9);
        int[] due = {5, 6, 0, 0, 60, 0, 0, 0};
        for (int i = 0; i < 8; i++) {
            Check.same("where(" + i / 4 + ", 0, " + i % 4 + ")", x.where(i / 4, 0, i % 4), due[i]);
        }
        x.load(1, 8);
        Check.same("along x", x.where(1, 0, 0), 120);
        Check.same("along y", x.where(1, 0, 1), -60);
    }

    /** "there is the WIND that was told for it, or the latest ahead of it (0, 0 ahead of all)" */
    private static void windOfAnHour() {
        TetherSky x = Check.under("wind 100 1 -2;wind 50 3 -4;wind 120 -9 9;wind 101 5 6;wind 99 7 8;wind 167 0 1;");
        int[] hours = {0, 49, 50, 98, 99, 100, 101, 119, 120, 166, 167};
        int[] alongX = {0, 0, 3, 3, 7, 1, 5, 5, -9, -9, 0};
        int[] alongY = {0, 0, -4, -4, 8, -2, 6, 6, 9, 9, 1};
        for (int i = 0; i < hours.length; i++) {
            Check.same("along x in " + hours[i], x.wind(hours[i], 0), alongX[i]);
            Check.same("along y in " + hours[i], x.wind(hours[i], 1), alongY[i]);
        }
        TetherSky first = Check.under("wind 0 2 3;");
        Check.same("the first hour", first.wind(0, 0) * 10 + first.wind(0, 1), 23);
    }

    // ---- the push ----

    private static void push(String rule, int ofIsle, int ofReef) {
        TetherSky x = Check.under("isle 9 9 30 40 5 6 8 3;reef 19 9 30 40 5 6 8 3;push " + rule + ";");
        Check.same("push " + rule, x.where(0, 0, 3), ofIsle);
        Check.same("push of a reef " + rule, x.where(1, 0, 3), ofReef);
    }

    /** A rule whose worth is 1: a test of what is beyond 0 to 100. */
    private static void holds(String test) {
        push(test, 1, 0);
    }

    /** "what its rule gives (kept to 0 to 100"; "of a reef half of it, cut down" */
    private static void keptPush() {
        push("0-9999", 0, 0);
        push("0-1", 0, 0);
        push("0", 0, 0);
        push("1", 1, 0);
        push("2", 2, 1);
        push("3", 3, 1);
        push("99", 99, 49);
        push("100", 100, 50);
        push("101", 100, 50);
        push("102", 100, 50);
        push("9999", 100, 50);
        push("9999*9999*9999*9999", 100, 50);
        push("8192*8192*32", 0, 0);
        push("8192*8192*32-1", 100, 50);
    }

    private static void reefs() {
        TetherSky x = Check.under("reef 30 30 60 99 1 0 0 0;hill 0 30 60 99 1 0 0 0;wind 0 9 0;push 99;");
        Check.same("60 by 9 by 49 by 900", x.where(0, 0, 0), 30 + 29);
        Check.same("high", x.where(0, 0, 2), 31);
        Check.same("of a hill all of it", x.where(1, 0, 0), 59);
    }

    /** "without one 50" */
    private static void withoutRule() {
        TetherSky x = Check.under("isle 0 0 20 99 1 0 0 0;hill 20 0 20 99 1 0 0 0;reef 40 0 20 99 1 0 0 0;wind 0 0 9;");
        int[] push = {50, 50, 25};
        int[] far = {10, 10, 5};
        for (int isle = 0; isle < 3; isle++) {
            Check.same("push of " + isle, x.where(isle, 0, 3), push[isle]);
            Check.same("y of " + isle, x.where(isle, 0, 1), far[isle]);
            Check.same("high of " + isle, x.where(isle, 0, 2), 20 - far[isle]);
        }
    }

    /** Line, wind, push; how far. */
    private static final int[][] FAR = {{60, 1, 15, 1}, {31, 1, 29, 0}, {60, 1, 14, 0}, {60, 1, 29, 1}, {60, 1, 30, 2},
        {7, 5, 50, 1}, {60, 9, 100, 60}, {1, 9, 100, 1}, {1, 9, 99, 0}, {60, 9, 99, 59}, {59, 8, 97, 50}, {60, 0, 100, 0},
        {60, 9, 0, 0}, {10, 9, 10, 1}, {9, 9, 11, 0}, {53, 7, 41, 16}};

    /** "as LINE by WIND along x by THE PUSH, by 900, cut down to 0, along y likewise" */
    private static void cutDown() {
        for (int[] row : FAR) {
            String isle = "isle 30 31 " + row[0] + " 99 1 0 0 0;push " + row[2] + ";wind 0 ";
            int far = row[3];
            spot(isle + row[1] + " 0;", 30 + far, 31, row[0] - far);
            spot(isle + "-" + row[1] + " 0;", 30 - far, 31, row[0] - far);
            spot(isle + "0 " + row[1] + ";", 30, 31 + far, row[0] - far);
            spot(isle + "0 -" + row[1] + ";", 30, 31 - far, row[0] - far);
        }
    }

    private static void spot(String text, int x, int y, int high) {
        TetherSky sky = Check.under(text);
        Check.same("x by " + text, sky.where(0, 0, 0), x);
        Check.same("y by " + text, sky.where(0, 0, 1), y);
        Check.same("high by " + text, sky.where(0, 0, 2), high);
    }

    /** "LINE less the greater of both (ahead of their signs) high" */
    private static void greaterOfBoth() {
        String isle = "isle 30 30 20 99 1 0 0 0;wind 0 ";
        spot(isle + "2 9;", 32, 40, 10);
        spot(isle + "9 2;", 40, 32, 10);
        spot(isle + "2 -9;", 32, 20, 10);
        spot(isle + "-9 2;", 20, 32, 10);
        spot(isle + "-9 9;", 20, 40, 10);
        spot(isle + "-4 -9;", 26, 20, 10);
        spot(isle + "-9 -4;", 20, 26, 10);
        spot(isle + "0 0;", 30, 30, 20);
    }

    /** "'weight' (all that lies on it, as below), 'rope' (as it is now), 'knots'" */
    private static void valuesNow() {
        TetherSky x = Check.under("hill 9 9 30 99 5 6 8 3;hill 12 9 30 99 5 6 8 0;push weight;");
        Check.same("weight", x.where(0, 0, 3), 25);
        x.load(0, 1);
        Check.same("another load", x.where(0, 0, 3), 18);
        Check.same("a goat", x.goat(0, 1, 0), true);
        Check.same("two less", x.where(0, 0, 3), 16);
        x.undo();
        x.undo();
        Check.same("undone", x.where(0, 0, 3), 25);
        TetherSky rope = Check.under("isle 9 9 30 99 5 6 8 3;push rope;");
        rope.winch(0, 44);
        Check.same("rope", rope.where(0, 0, 3), 44);
        rope.knot(0, true);
        Check.same("it isn't LINE", rope.where(0, 0, 3), 44);
        TetherSky knots = Check.under("isle 9 9 30 99 5 6 8 3;push knots;");
        knots.knot(0, true);
        knots.knot(0, true);
        Check.same("knots", knots.where(0, 0, 3), 2);
        TetherSky others = Check.under("isle 9 9 30 99 5 6 8 3;isle 1 1 9 77 4 3 2 1;push lift*(size=4)+people*(size=5);");
        Check.same("lift of its own", others.where(1, 0, 3), 77);
        Check.same("people of its own", others.where(0, 0, 3), 6);
        others.walk(0, 0, 1, 1);
        Check.same("all people", others.where(0, 0, 3), 6);
    }

    /** "'hour' (of the day, 0 to 23), 'day' (0 to 6)" */
    private static void hoursAndDays() {
        TetherSky x = Check.under("isle 9 9 30 99 5 0 0 0;push hour;");
        TetherSky y = Check.under("isle 9 9 30 99 5 0 0 0;push day*10;");
        int[] hours = {0, 1, 23, 24, 47, 48, 143, 144, 166, 167};
        int[] ofDay = {0, 1, 23, 0, 23, 0, 23, 0, 22, 23};
        int[] days = {0, 0, 0, 1, 1, 2, 5, 6, 6, 6};
        for (int i = 0; i < hours.length; i++) {
            Check.same("hour of " + hours[i], x.where(0, hours[i], 3), ofDay[i]);
            Check.same("day of " + hours[i], y.where(0, hours[i], 3), 10 * days[i]);
        }
    }

    /** "From the left" */
    private static void fromTheLeft() {
        push("20-3-4", 13, 6);
        push("20-3+4", 21, 10);
        push("20-(3+4)", 13, 6);
        push("60/7*2", 16, 8);
        push("2*60/7", 17, 8);
        push("60/7/2", 4, 2);
        push("99/2/2/2", 12, 6);
        push("0 and 0 or 1", 1, 0);
        push("1 or 0 and 0", 1, 0);
        push("(1 or 0) and 0", 0, 0);
    }

    /** "ints that wrap" */
    private static void numbersWrap() {
        holds("8192*8192*32-1+1<0");
        holds("0<8192*8192*32-1");
        holds("0-8192*8192*32=8192*8192*32");
        holds("8192*8192*64=0");
        holds("9999*9999*43=4172*1000+747");
        holds("9999*9999*9999=0-1027*1000*1000-349*1000-969");
        push("8192*8192*64+7", 7, 3);
        push("8192*8192*32*2+8", 8, 4);
    }

    /** "/ cut down to 0, by 0 gives 0" */
    private static void divided() {
        push("7/2", 3, 1);
        push("(0-7)/2+10", 7, 3);
        push("7/(0-2)+10", 7, 3);
        push("(0-7)/(0-2)", 3, 1);
        push("(0-1)/2+10", 10, 5);
        push("1/(0-2)+10", 10, 5);
        push("7/0+3", 3, 1);
        push("0/0+3", 3, 1);
        push("(0-7)/0+3", 3, 1);
        push("9/(lift-40)+4", 4, 2);
        push("0/7+3", 3, 1);
        holds("8192*8192*32/(0-1)=8192*8192*32");
    }

    /** "tests, not, and, or are 1 or 0 (what isn't 0 holds)" */
    private static void oneOrZero() {
        push("(1<2)*60", 60, 30);
        push("(2<2)*60+5", 5, 2);
        push("(3<2)*60+5", 5, 2);
        push("(0-3<2)*60+5", 65, 32);
        push("(2=2)*60", 60, 30);
        push("(2=3)*60+5", 5, 2);
        push("(5 and 7)*60", 60, 30);
        push("(0-5 and 0-7)*60", 60, 30);
        push("(5 and 0)*60+5", 5, 2);
        push("(0 and 5)*60+5", 5, 2);
        push("(5 or 7)*60", 60, 30);
        push("(0 or 7)*60", 60, 30);
        push("(0-7 or 0)*60", 60, 30);
        push("(0 or 0)*60+5", 5, 2);
        push("(not 5)*60+5", 5, 2);
        push("(not (0-5))*60+5", 5, 2);
        push("(not 0)*60+5", 65, 32);
        push("(not not 5)*60+5", 65, 32);
        push("(not not not not not not 5)*60+5", 65, 32);
        push("(not not not not not 5)*60+5", 5, 2);
    }

    /** "EXPR: AND ('or' AND)* ..." down to PART: what binds closer. */
    private static void binding() {
        push("2+3*4", 14, 7);
        push("(2+3)*4", 20, 10);
        push("20-6/2", 17, 8);
        push("1+1=2", 1, 0);
        push("2=1+1", 1, 0);
        push("1<2*3", 1, 0);
        push("2*3<1", 0, 0);
        push("1 and 2=3", 0, 0);
        push("1 or 2=3", 1, 0);
        push("not 1=2", 1, 0);
        push("not 0+1", 0, 0);
        push("not 0 and 0", 0, 0);
        push("not 0 or 1", 1, 0);
        push("not (0 or 1)", 0, 0);
        push("1 or 1 and 0", 1, 0);
        push("0 and 1 or 1", 1, 0);
        push("0 and (1 or 1)", 0, 0);
        push("1 and not 0", 1, 0);
        push("1 and not 1", 0, 0);
        push("0 or not 0", 1, 0);
        push("0 or not 1", 0, 0);
        push("1 and not not 1", 1, 0);
        push("5+(not 1)", 5, 2);
        push("5*(0 or 0 and 0<9+2*(not 0))", 0, 0);
        push("5*(0 or 1 and 0<9+2*(not 0))", 5, 2);
        push("7-(2<3)*(4 and not 0)", 6, 3);
        push("(1<2)<2", 1, 0);
    }

    // ---- between two ----

    /** "if along x and along y they are no more apart than both SIZES together": 2 and 3. */
    private static void over() {
        for (int far = 0; far <= 7; far++) {
            int at = 20 + far;
            int back = 20 - far;
            boolean due = far <= 5;
            over("isle 20 21 9 99 2 0 0 0;isle " + at + " 20 30 99 3 0 0 0;", due);
            over("isle 20 21 9 99 2 0 0 0;isle " + back + " 20 30 99 3 0 0 0;", due);
            over("isle 21 20 9 99 2 0 0 0;isle 20 " + at + " 30 99 3 0 0 0;", due);
            over("isle 21 20 9 99 2 0 0 0;isle 20 " + back + " 30 99 3 0 0 0;", due);
            over("isle 25 20 9 99 2 0 0 0;isle 20 " + at + " 30 99 3 0 0 0;", due);
            over("isle 26 20 9 99 2 0 0 0;isle 20 " + at + " 30 99 3 0 0 0;", false);
        }
    }

    private static void over(String text, boolean due) {
        TetherSky x = Check.under(text);
        Check.same("OVER by " + text, x.between(0, 1, 0, 0), due);
        Check.same("OVER the other way by " + text, x.between(1, 0, 0, 0), due);
        Check.same("the higher one's SHADE by " + text, x.between(0, 1, 0, 2), due);
        Check.same("RAIN by " + text, x.rain(0, 0), due ? 1 : -1);
    }

    /** "They KNOCK, if they are, and are no more than 1 apart in how high they are." */
    private static void knocks() {
        for (int high = 7; high <= 13; high++) {
            TetherSky x = Check.under("isle 20 20 10 99 2 0 0 0;isle 25 20 " + high + " 99 3 0 0 0;"
                    + "isle 26 26 " + high + " 99 3 0 0 0;");
            boolean due = high >= 9 && high <= 11;
            Check.same("10 and " + high, x.between(0, 1, 0, 1), due);
            Check.same(high + " and 10", x.between(1, 0, 0, 1), due);
            Check.same("not OVER", x.between(0, 2, 0, 1), false);
        }
        TetherSky posts = Check.under("isle 20 20 10 1 2 1 0 0;isle 20 24 20 1 2 1 0 0;isle 20 16 1 99 2 0 0 0;"
                + "isle 16 20 2 99 2 0 0 0;");
        Check.same("on their POSTS", posts.between(0, 1, 0, 1), true);
        Check.same("1 high", posts.between(0, 2, 0, 1), true);
        Check.same("2 high", posts.between(0, 3, 0, 1), false);
    }

    /** "in THE SHADE of another one, if they are OVER one another, and that one is higher by 2 or more" */
    private static void shades() {
        for (int high = 7; high <= 13; high++) {
            TetherSky x = Check.under("isle 20 20 10 99 2 0 0 0;isle 25 20 " + high + " 99 3 0 0 0;"
                    + "isle 26 26 " + high + " 99 3 0 0 0;");
            Check.same("10 below " + high, x.between(0, 1, 0, 2), high >= 12);
            Check.same(high + " below 10", x.between(1, 0, 0, 2), high <= 8);
            Check.same("not OVER", x.between(0, 2, 0, 2), false);
            Check.same("RAIN of the first", x.rain(0, 0), high >= 12 ? 1 : -1);
            Check.same("RAIN of the second", x.rain(1, 0), high <= 8 ? 0 : -1);
        }
    }

    /** "OVER one another but for REACH (no more apart than both SIZES and REACH ...), and no more than REACH apart ..." */
    private static void bridges() {
        for (int reach = 0; reach <= 20; reach++) {
            for (int more = -1; more <= 1; more++) {
                int far = 20 + 5 + reach + more;
                int high = 20 + reach + more;
                String end = "reach " + reach + ";";
                bridge("isle 20 20 20 99 2 0 0 0;isle " + far + " 21 20 99 3 0 0 0;" + end, more <= 0);
                bridge("isle 20 20 20 99 2 0 0 0;isle 21 " + far + " 20 99 3 0 0 0;" + end, more <= 0);
                boolean highDue = Math.abs(high - 20) <= reach;
                bridge("isle 20 20 20 99 2 0 0 0;isle 21 20 " + high + " 99 3 0 0 0;" + end, highDue);
                bridge("isle 20 20 " + high + " 99 2 0 0 0;isle 21 20 20 99 3 0 0 0;" + end, highDue);
            }
        }
        bridge("isle 20 20 20 99 2 0 0 0;isle 27 27 22 99 3 0 0 0;", true);
        bridge("isle 20 20 20 99 2 0 0 0;isle 28 20 20 99 3 0 0 0;", false);
        bridge("isle 20 20 20 99 2 0 0 0;isle 21 20 23 99 3 0 0 0;", false);
    }

    private static void bridge(String text, boolean due) {
        TetherSky x = Check.under(text);
        Check.same("BRIDGE by " + text, x.between(0, 1, 0, 3), due);
        Check.same("BRIDGE the other way by " + text, x.between(1, 0, 0, 3), due);
    }

    /** "from the lowest of those in whose SHADE it is (of like ones the least)" */
    private static void rains() {
        String low = "isle 10 10 9 9 1 0 0 0;";
        int[][] rows = {{15, 13, 11, 3}, {11, 13, 15, 1}, {13, 11, 15, 2}, {12, 12, 12, 1}, {13, 12, 12, 2}, {12, 13, 12, 1},
            {10, 8, 11, 3}, {10, 10, 10, -1}, {10, 12, 10, 2}, {60, 60, 59, 3}};
        for (int[] row : rows) {
            TetherSky x = Check.under(low + "isle 11 10 " + row[0] + " 9 1 0 0 0;isle 10 11 " + row[1] + " 9 1 0 0 0;"
                    + "isle 9 10 " + row[2] + " 9 1 0 0 0;isle 13 10 11 9 1 0 0 0;");
            Check.same("RAIN below " + row[0] + " " + row[1] + " " + row[2], x.rain(0, 0), row[3]);
            Check.same("in an hour", x.rain(0, 167), row[3]);
        }
        TetherSky last = Check.under("isle 10 11 20 9 1 0 0 0;isle 9 10 20 9 1 0 0 0;" + low);
        Check.same("the least of those ahead", last.rain(2, 0), 0);
        last.winch(0, 21);
        Check.same("the rope as it is now", last.rain(2, 0), 1);
        TetherSky strong = Check.under("isle 10 10 20 99 1 0 0 0;isle 19 10 9 1 1 1 0 0;wind 5 8 0;gusts 0 0 0 1;");
        Check.same("8 further by a push of 50", strong.rain(1, 5), 0);
    }

    /** Of six ISLES each one below the five others, or below those of them that are two higher. */
    private static void rainOfSix() {
        for (int low = 0; low < 6; low++) {
            StringBuilder text = new StringBuilder();
            for (int i = 0; i < 6; i++) {
                text.append("isle ").append(10 + i).append(" 10 ").append(i == low ? 9 : 30 - 2 * i).append(" 9 5 0 0 0;");
            }
            TetherSky x = Check.under(text.toString());
            int lowest = low == 5 ? 4 : 5;
            Check.same("RAIN from the lowest of five", x.rain(low, 0), lowest);
            Check.same("RAIN of the highest", x.rain(low == 0 ? 1 : 0, 0), -1);
            Check.same("RAIN of the next one", x.rain(low <= 1 ? 2 : 1, 0), low == 0 ? 1 : 0);
            for (int i = 0; i < 6; i++) {
                Check.same("in THE SHADE of " + i, i != low && x.between(low, i == low ? (i + 1) % 6 : i, 0, 2), i != low);
            }
        }
    }

    /** Both by their ROPES as they are now, and without a gust. */
    private static void betweenNow() {
        TetherSky x = Check.under("isle 10 10 9 50 1 0 0 0;isle 11 10 20 50 1 0 0 0;");
        Check.same("as told", x.between(0, 1, 0, 1), false);
        x.winch(0, 20);
        Check.same("the first winched", x.between(0, 1, 0, 1), true);
        Check.same("from it", x.between(0, 1, 0, 3), true);
        x.winch(1, 30);
        Check.same("the second winched", x.between(0, 1, 0, 1), false);
        Check.same("in its SHADE", x.between(0, 1, 0, 2), true);
        x.load(1, 60);
        Check.same("too heavy", x.between(1, 0, 0, 2), true);
        String gusts = "push 80;wind 0 9 0;gusts 0 1 1 1;";
        TetherSky gusty = Check.under("isle 10 10 10 50 1 0 0 0;isle 18 10 9 1 1 1 0 0;" + gusts);
        Check.same("18 and 2 high, though 20 and down by a gust", gusty.between(0, 1, 0, 1), false);
        Check.same("the other way", gusty.between(1, 0, 0, 1), false);
        Check.same("in its SHADE", gusty.between(1, 0, 0, 2), true);
        Check.same("the first by a gust", gusty.between(0, 1, 0, 2), false);
    }

    // ---- leaning ----

    /** "the greater of how many more are east than west, or the other way round, and of north and south" */
    private static void leanings() {
        int[][] rows = {{5, 0, 0, 0, 5}, {0, 5, 0, 0, 5}, {0, 0, 5, 0, 5}, {0, 0, 0, 5, 5}, {3, 0, 2, 0, 1}, {0, 3, 0, 2, 1},
            {1, 1, 1, 2, 1}, {2, 2, 0, 1, 2}, {0, 1, 2, 2, 2}, {1, 4, 0, 0, 4}, {0, 0, 4, 1, 4}, {1, 1, 3, 0, 2}};
        for (int[] row : rows) {
            TetherSky x = Check.under("isle 9 9 9 9 1 5 0 0;");
            for (int side = 1; side < 4; side++) {
                x.walk(0, side, 0, 1);
            }
            for (int side = 1; side < 4; side++) {
                x.walk(0, 0, side, row[side]);
            }
            Check.same("north", x.isle(0, 12), row[0]);
            Check.same("LEANING", x.where(0, 0, 4), row[4]);
        }
        Check.same("as many on each", Check.under("isle 9 9 9 9 1 8 0 0;").where(0, 0, 4), 0);
        Check.same("nobody", Check.under("isle 9 9 9 9 1 0 0 0;").where(0, 155, 4), 0);
    }

    /** "at CHURCH (DAY 6, HOURS 10 and 11) all PEOPLE are on that SIDE" */
    private static void churchHours() {
        for (String side : new String[] {"", "church north;", "church east;", "church south;", "church west;"}) {
            TetherSky x = Check.under("isle 9 9 9 9 1 9 0 0;isle 19 9 9 1 1 20 0 0;" + side);
            for (int hour = 0; hour < 168; hour++) {
                boolean church = hour == 154 || hour == 155;
                Check.same("LEANING in " + hour, x.where(0, hour, 4), church ? 9 : 1);
                Check.same("on its POST in " + hour, x.where(1, hour, 4), church ? 20 : 0);
            }
            Check.same("they go back", x.isle(0, 12) * 10 + x.isle(0, 13), 32);
        }
    }
}
