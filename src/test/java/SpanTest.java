/** Promises 17 to 23: spans, the least winching, ways. */
public final class SpanTest {
    public static void main(String[] args) {
        spans();
        knocks();
        shades();
        wets();
        turns();
        leastWinching();
        winchingEdges();
        winchingOrder();
        forLight();
        keptRopes();
        ways();
        waysThroughHours();
        Check.finish();
    }

    private static void spans() {
        TetherSky x = Check.under("isle 0 0 9 9 1 0 0 0;isle 30 0 9 9 1 0 0 0;");
        int[][] bad = {{5, 4}, {-1, 4}, {0, 168}, {168, 168}, {-2, -1}, {Integer.MIN_VALUE, Integer.MAX_VALUE}};
        for (int[] span : bad) {
            int from = span[0];
            int to = span[1];
            Check.illegal("knock", () -> x.knock(from, to, 0));
            Check.illegal("shade", () -> x.shade(0, from, to));
            Check.illegal("wet", () -> x.wet(0, from, to));
            Check.illegal("winds", () -> x.winds(0, 1, from, to));
            Check.illegal("least", () -> x.least(from, to, 0, true));
            Check.illegal("calm", () -> x.calm(from, to, 0));
            Check.illegal("debt", () -> x.debt(0, 1, from, to));
            Check.illegal("rich", () -> x.rich(from, to));
            Check.noSuch("knock, what ahead", () -> x.knock(from, to, 2));
            Check.noSuch("shade, isle ahead", () -> x.shade(2, from, to));
            Check.noSuch("wet, isle ahead", () -> x.wet(-1, from, to));
            Check.noSuch("winds, isle ahead", () -> x.winds(2, 2, from, to));
            Check.noSuch("calm, what ahead", () -> x.calm(from, to, -1));
            Check.noSuch("debt, isle ahead", () -> x.debt(0, 2, from, to));
        }
        Check.same("the whole week", x.knock(0, 167, 0), -1);
        Check.same("one hour", x.shade(0, 167, 167), 0);
        Check.illegal("winds of one", () -> x.winds(1, 1, 0, 1));
        Check.illegal("debt of one", () -> x.debt(1, 1, 0, 1));
        Check.noSuch("knock, what -1", () -> x.knock(0, 1, -1));
    }

    private static void knocks() {
        // isle 0 comes down on isle 1 from hour 18 of a day on
        TetherSky x = Check.under("isle 10 10 10 99 1 0 0 0;isle 20 10 20 1 1 1 0 0;wind 24 9 0;push hour*5;");
        Check.same("none", x.knock(0, 41, 0), -1);
        Check.same("none", x.knock(0, 41, 1), -1);
        Check.same("the first hour", x.knock(0, 167, 0), 42);
        Check.same("later", x.knock(43, 167, 0), 43);
        Check.same("the next day", x.knock(48, 167, 0), 66);
        TetherSky y = Check.under("isle 1 1 9 9 2 0 0 0;isle 9 9 9 9 2 0 0 0;isle 8 9 9 9 2 0 0 0;isle 10 9 9 9 2 0 0 0;");
        Check.same("the hour", y.knock(7, 9, 0), 7);
        Check.same("the first two", y.knock(7, 9, 1), 12);
        y.winch(1, 20);
        Check.same("the next two", y.knock(7, 9, 1), 23);
    }

    private static void shades() {
        TetherSky x = Check.under("isle 10 10 20 99 2 0 0 0;isle 12 10 9 99 2 0 0 0;isle 10 12 15 99 2 0 0 0;"
                + "wind 5 0 9;wind 9 0 0;push 10+day*40;");
        Check.same("all hours", x.shade(1, 0, 4), 5);
        Check.same("the highest", x.shade(0, 0, 167), 0);
        Check.same("from its own span", x.shade(1, 4, 9), 6);
        Check.same("the week", x.shade(2, 0, 167), 168);
        Check.noSuch("isle", () -> x.shade(3, 0, 1));
    }

    private static void wets() {
        TetherSky x = Check.under("isle 10 10 5 99 1 0 0 0;isle 10 12 20 99 1 0 0 0;reef 10 8 20 99 1 0 0 0;"
                + "wind 2 0 -9;wind 3 0 9;wind 4 0 0;");
        Check.same("of like heights the least", x.rain(0, 0), 1);
        Check.same("south wind", x.rain(0, 3), 2);
        Check.same("most often", x.wet(0, 0, 4), 1);
        Check.same("never", x.wet(2, 0, 167), -1);
        Check.same("in that hour", x.wet(0, 3, 3), 2);
        Check.same("of like ones the least", x.wet(0, 3, 4), 1);
        Check.noSuch("isle", () -> x.wet(3, 0, 1));
    }

    private static void turns() {
        String isles = "isle 10 0 20 50 1 0 0 0;isle 10 9 4 50 1 0 0 0;";
        TetherSky x = Check.under(isles + "wind 0 9 0;wind 2 -9 0;wind 4 9 0;wind 6 -9 0;");
        Check.same("west to east", x.winds(0, 1, 0, 2), -1);
        Check.same("only what is in the span", x.winds(0, 1, 2, 3), 0);
        Check.same("from the second hour on", x.winds(0, 1, 1, 2), -1);
        Check.same("east to west", x.winds(0, 1, 2, 4), 1);
        Check.same("there and back", x.winds(0, 1, 0, 5), 0);
        Check.same("and again", x.winds(0, 1, 0, 167), -1);
        Check.same("north of it", x.winds(1, 0, 0, 167), 0);
        TetherSky like = Check.under(isles + "wind 0 9 0;wind 2 0 0;wind 3 9 0;");
        Check.same("right south is not west", like.winds(0, 1, 0, 2), -1);
        Check.same("and back", like.winds(0, 1, 2, 3), 1);
        TetherSky beside = Check.under("isle 10 9 20 50 1 0 0 0;isle 11 9 4 50 1 0 0 0;wind 1 9 0;");
        Check.same("a like y is not south", beside.winds(0, 1, 0, 5), 0);
        Check.noSuch("isle", () -> x.winds(0, 2, 0, 1));
        Check.noSuch("isle", () -> x.winds(-1, 0, 0, 1));
    }

    private static void leastWinching() {
        TetherSky x = Check.under("isle 10 10 10 99 2 0 0 0;isle 11 10 10 99 2 0 0 0;isle 12 10 10 99 2 0 0 0;");
        Check.same("by 0", x.least(0, 0, 0, false), -1);
        Check.same("by 1", x.least(0, 0, 1, false), -1);
        Check.same("by 2", x.least(0, 23, 2, false), 4);
        Check.same("the shortest first", x.rope(0) * 10000 + x.rope(1) * 100 + x.rope(2), 81012);
        Check.same("no rope is winched", x.isle(0, 3), 10);
        TetherSky far = Check.under("isle 10 10 10 99 2 0 0 0;isle 21 10 10 99 2 0 0 0;");
        Check.same("nothing knocks", far.least(0, 5, 4, false), 0);
        Check.same("ropes as they are", far.rope(1), 10);
        TetherSky none = new TetherSky();
        Check.same("no isles", none.least(0, 0, 4, true), 0);
    }

    private static void winchingEdges() {
        TetherSky x = Check.under("isle 10 10 1 99 2 0 0 0;isle 11 10 2 99 2 0 0 0;isle 50 10 60 99 1 0 0 0;"
                + "isle 50 11 59 99 1 0 0 0;");
        Check.illegal("25 hours", () -> x.least(0, 24, 0, false));
        Check.illegal("n 5", () -> x.least(0, 23, 5, false));
        Check.illegal("n -1", () -> x.least(0, 23, -1, false));
        Check.same("1 to 60 still", x.least(0, 23, 1, false), 2);
        Check.same("the first row", x.rope(0) * 10 + x.rope(1), 13);
        Check.same("the third and fourth", x.rope(2) * 100 + x.rope(3), 6058);
        TetherSky five = Check.under("isle 1 1 9 9 1 0 0 0;isle 5 1 9 9 1 0 0 0;isle 9 1 9 9 1 0 0 0;"
                + "isle 13 1 9 9 1 0 0 0;isle 17 1 9 9 1 0 0 0;");
        Check.same("spent", five.least(0, 5, 2, false), -2);
        Check.illegal("bad arguments are told ahead", () -> five.least(0, 5, 5, true));
        Check.noSuch("nothing is kept", () -> five.rope(0));
    }

    private static void winchingOrder() {
        TetherSky x = Check.under("isle 10 10 10 99 2 0 0 0;isle 11 10 10 99 2 0 0 0;");
        Check.same("two yards", x.least(0, 0, 2, false), 2);
        Check.same("of like ones the shortest of the first", x.rope(0) * 100 + x.rope(1), 810);
        x.winch(0, 11);
        Check.same("one yard", x.least(0, 0, 2, false), 1);
        Check.same("the shorter of the second", x.rope(0) * 100 + x.rope(1), 1109);
        TetherSky ruled = Check.under("isle 10 10 10 99 1 0 0 0;isle 20 10 10 99 1 0 0 0;wind 0 9 0;push (rope=11)*100;");
        Check.same("the rule sees the rope that is tried", ruled.least(0, 0, 1, false), 0);
        ruled.winch(0, 11);
        ruled.winch(1, 1);
        Check.same("0 against 1 high", ruled.least(0, 0, 2, false), 1);
        Check.same("by the rule", ruled.rope(0) * 100 + ruled.rope(1), 1001);
    }

    private static void forLight() {
        TetherSky x = Check.under("isle 10 10 10 99 2 0 0 0;isle 11 10 12 99 2 0 0 0;light 5;");
        Check.same("5 hours are no more than light", x.least(0, 4, 0, true), 0);
        Check.same("6 are", x.least(0, 5, 0, true), -1);
        Check.same("by a yard", x.least(0, 5, 1, true), 1);
        Check.same("the first row", x.rope(0) * 100 + x.rope(1), 1011);
        Check.same("else light doesn't matter", x.least(0, 5, 1, false), 0);
        TetherSky wind = Check.under("isle 10 10 10 99 2 0 0 0;isle 11 10 14 99 2 0 0 0;isle 30 30 5 9 1 0 0 0;"
                + "light 2;wind 3 9 9;push 100*(hour<6);");
        Check.same("hours of shade in the span", wind.shade(0, 0, 5), 3);
        Check.same("more than light", wind.least(0, 5, 0, true), -1);
        Check.same("an hour less", wind.least(1, 5, 0, true), 0);
        TetherSky two = Check.under("isle 20 20 5 99 1 0 0 0;reef 19 20 30 99 1 0 0 0;isle 10 20 30 99 1 0 0 0;"
                + "light 1;wind 1 4 0;");
        Check.same("by two others", two.least(0, 1, 0, true), -1);
    }

    private static void keptRopes() {
        TetherSky x = Check.under("isle 10 10 10 99 2 0 0 0;isle 11 10 10 99 2 0 0 0;");
        Check.noSuch("nothing is kept", () -> x.rope(0));
        Check.same("none", x.least(0, 0, 0, false), -1);
        Check.noSuch("still nothing", () -> x.rope(0));
        Check.same("some", x.least(0, 0, 2, false), 2);
        Check.same("kept", x.rope(0), 8);
        Check.same("none", x.least(0, 0, 0, false), -1);
        Check.same("it stays", x.rope(0), 8);
        Check.noSuch("isle", () -> x.rope(2));
        Check.noSuch("isle", () -> x.rope(-1));
        x.image();
        Check.same("other ropes", x.least(0, 0, 0, true), 0);
        x.restore();
        Check.same("the image keeps no rows", x.rope(0), 10);
        x.winch(0, 40);
        Check.same("an act leaves them", x.rope(0), 10);
        x.sky(0);
        Check.noSuch("they are gone", () -> x.rope(0));
    }

    private static void ways() {
        TetherSky x = Check.under("isle 10 10 10 99 1 0 0 0;isle 14 10 10 99 1 0 0 0;isle 18 10 10 99 1 0 0 0;"
                + "isle 22 10 10 99 1 0 0 0;isle 16 12 10 99 1 0 0 0;isle 50 50 10 99 1 0 0 0;");
        Check.same("at once", x.way(0, 3, 5, 0), 5);
        Check.same("over three", x.way(0, 3, 5, 1), 3);
        Check.same("over one", x.way(0, 1, 5, 1), 1);
        Check.same("back", x.way(3, 0, 5, 1), 3);
        Check.same("to itself", x.way(5, 5, 167, 0), 167);
        Check.same("to itself", x.way(5, 5, 167, 1), 0);
        Check.same("none", x.way(0, 5, 0, 0), -1);
        Check.same("none", x.way(0, 5, 0, 1), -1);
        Check.noSuch("from", () -> x.way(6, 0, 0, 0));
        Check.noSuch("to", () -> x.way(0, 6, 0, 0));
        Check.noSuch("hour", () -> x.way(0, 0, 168, 0));
        Check.noSuch("hour", () -> x.way(0, 0, -1, 0));
        Check.noSuch("what", () -> x.way(0, 0, 0, 2));
        Check.noSuch("what", () -> x.way(0, 0, 0, -1));
    }

    private static void waysThroughHours() {
        TetherSky x = Check.under("isle 0 10 20 99 1 0 0 0;reef 11 10 20 99 1 0 0 0;isle 20 9 3 99 1 0 0 0;"
                + "wind 4 9 0;wind 5 0 0;wind 9 5 0;wind 10 -9 0;wind 11 9 0;reach 8;");
        Check.same("an hour comes", x.way(0, 1, 0, 0), 4);
        Check.same("over one", x.way(0, 1, 0, 1), 1);
        Check.same("in the hour itself", x.way(0, 1, 12, 0), 12);
        TetherSky last = Check.under("isle 0 10 10 99 1 0 0 0;isle 19 10 1 99 1 0 0 0;wind 167 9 0;push 100;reach 8;");
        Check.same("in the last hour", last.way(0, 1, 0, 0), 167);
        Check.same("not ahead of it", last.way(0, 1, 167, 0), 167);
        TetherSky never = Check.under("isle 0 10 10 99 1 0 0 0;isle 19 10 1 99 1 0 0 0;wind 166 9 0;wind 167 0 0;push 100;"
                + "reach 8;");
        Check.same("the hour is over", never.way(0, 1, 167, 0), -1);
    }
}
