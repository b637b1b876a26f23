/** Promises 6 to 10: isles, winds, where they are, what is between two, rain. */
public final class SkyTest {
    public static void main(String[] args) {
        isles();
        sides();
        winds();
        floating();
        pushes();
        rules();
        leaning();
        rooms();
        knocksAndShades();
        bridges();
        rains();
        Check.finish();
    }

    private static void isles() {
        TetherSky x = Check.under("hill 10 11 20 50 2 7 4 9;");
        int[] due = {1, 10, 11, 20, 50, 2, 7, 4, 9, 0, 34, 1, 2, 2, 2, 1};
        for (int what = 0; what < due.length; what++) {
            Check.same("isle(0, " + what + ")", x.isle(0, what), due[what]);
        }
        Check.noSuch("isle(0, 16)", () -> x.isle(0, 16));
        Check.noSuch("isle(0, -1)", () -> x.isle(0, -1));
        Check.noSuch("isle(1, 0)", () -> x.isle(1, 0));
        Check.noSuch("isle(-1, 0)", () -> x.isle(-1, 0));
        x.knot(0, true);
        Check.same("knots", x.isle(0, 9), 1);
    }

    private static void sides() {
        TetherSky x = Check.under("isle 0 0 9 9 1 0 0 0;isle 1 0 9 9 1 1 0 0;isle 2 0 9 9 1 4 0 0;"
                + "isle 3 0 9 9 1 19 0 0;isle 4 0 9 9 1 20 0 0;");
        int[] due = {0, 1000, 1111, 5554, 5555};
        for (int i = 0; i < due.length; i++) {
            int sides = 0;
            for (int what = 12; what <= 15; what++) {
                sides = 10 * sides + x.isle(i, what);
            }
            Check.same("sides of " + i, sides, due[i]);
        }
    }

    private static void winds() {
        TetherSky x = Check.under("wind 100 1 -2;wind 50 3 -4;wind 120 -9 9;");
        Check.same("ahead of all", x.wind(49, 0), 0);
        Check.same("from its hour", x.wind(50, 0), 3);
        Check.same("along y", x.wind(99, 1), -4);
        Check.same("the latest", x.wind(119, 0), 1);
        Check.same("the last", x.wind(167, 0), -9);
        Check.noSuch("wind(-1, 0)", () -> x.wind(-1, 0));
        Check.noSuch("wind(168, 0)", () -> x.wind(168, 0));
        Check.noSuch("wind(0, 2)", () -> x.wind(0, 2));
        Check.noSuch("wind(0, -1)", () -> x.wind(0, -1));
    }

    private static void floating() {
        TetherSky x = Check.under("isle 5 6 20 10 1 4 3 1;isle 30 6 20 9 1 4 3 1;hill 50 6 20 14 1 4 3 1;wind 0 9 -9;");
        Check.same("lift above the weight", x.isle(0, 11), 1);
        Check.same("lift like the weight", x.isle(1, 11), 0);
        Check.same("a hill's weight", x.isle(2, 10), 14);
        Check.same("a hill", x.isle(2, 11), 0);
        int[] due = {15, -4, 10, 50};
        int[] onPost = {30, 6, 0, 0};
        for (int what = 0; what < 4; what++) {
            Check.same("where(0, 0, " + what + ")", x.where(0, 0, what), due[what]);
            Check.same("where(1, 0, " + what + ")", x.where(1, 0, what), onPost[what]);
        }
        for (int i = 0; i < 20; i++) {
            x.knot(0, true);
        }
        Check.same("no line", x.isle(0, 11), 0);
        Check.same("no line, no height", x.where(0, 0, 2), 0);
        x.knot(0, true);
        Check.same("more knots than rope", x.where(0, 0, 0), 5);
        Check.noSuch("where(3, 0, 0)", () -> x.where(3, 0, 0));
        Check.noSuch("where(0, 168, 0)", () -> x.where(0, 168, 0));
        Check.noSuch("where(0, -1, 0)", () -> x.where(0, -1, 0));
        Check.noSuch("where(0, 0, 5)", () -> x.where(0, 0, 5));
        Check.noSuch("where(0, 0, -1)", () -> x.where(0, 0, -1));
    }

    private static void pushes() {
        TetherSky x = Check.under("isle 0 0 33 10 1 0 0 0;reef 9 0 33 10 1 0 0 0;wind 0 -7 3;push 75;");
        Check.same("of an isle", x.where(0, 0, 3), 75);
        Check.same("of a reef cut down", x.where(1, 0, 3), 37);
        Check.same("cut down to 0", x.where(0, 0, 0), -19);
        Check.same("along y", x.where(0, 0, 1), 8);
        Check.same("high by the greater", x.where(0, 0, 2), 14);
        Check.same("the reef", x.where(1, 0, 0), 0);
        Check.same("without a rule", Check.under("isle 0 0 9 9 1 0 0 0;").where(0, 0, 3), 50);
        Check.same("a reef without a rule", Check.under("reef 0 0 9 9 1 0 0 0;").where(0, 0, 3), 25);
    }

    private static void rules() {
        push("0-5", 0);
        push("101", 100);
        push("100", 100);
        push("2+3*4", 14);
        push("20-3-4", 13);
        push("60/7/2", 4);
        push("60/(7/2)", 20);
        push("(0-7)/2+10", 7);
        push("7/0+3", 3);
        push("7/(0-2)+10", 7);
        push("9-2*3+1", 4);
        push("1<2", 1);
        push("2<2", 0);
        push("2=2", 1);
        push("3+(2=1)", 3);
        push("5 and 7", 1);
        push("5 and 0", 0);
        push("0 or 7", 1);
        push("0 or 0", 0);
        push("1 or 1 and 0", 1);
        push("(1 or 1) and 0", 0);
        push("not 5", 0);
        push("not 0", 1);
        push("not not 5", 1);
        push("not 1=2", 1);
        push("not 0 and 0", 0);
        push("1+1=2 and 3<2+2", 1);
        push("9999*9999*9999<0", 1);
        push("8192*8192*64+7", 7);
        push("8192*8192*32<0", 1);
        push("8192*8192*32/(0-1)<0", 1);
        push("8192*8192*32/(0-1)=8192*8192*32", 1);
        push("lift", 40);
        push("weight", 25);
        push("rope", 30);
        push("knots", 1);
        push("people", 6);
        push("hour", 3);
        push("day", 2);
        push("size", 5);
        push("not not not not not not 8", 1);
        push("0 or 1 and 0<2+3*(0 or 1 and 0<2+3*(0 or 1 and 0<2+3*(0 or 1 and 0<2+3*(0 or 1 and 9<2+3*(4)))))", 1);
        push("8+2*(3-1*(9-2*(5-1*(0 or 1 and 7=4+3*(1)))))", 12);
        StringBuilder longest = new StringBuilder("1");
        while (longest.length() < 650) {
            longest.append("+0");
        }
        push(longest + "+6*5", 31);
    }

    private static void push(String rule, int due) {
        TetherSky x = Check.under("hill 0 0 30 40 5 6 8 3;push " + rule + ";");
        x.knot(0, true);
        Check.same("push " + rule, x.where(0, 51, 3), due);
    }

    private static void leaning() {
        TetherSky x = Check.under("isle 0 0 9 9 1 7 0 0;church west;");
        Check.same("2 2 2 1", x.where(0, 0, 4), 1);
        x.walk(0, 0, 2, 2);
        Check.same("0 2 4 1", x.where(0, 0, 4), 4);
        x.walk(0, 2, 3, 4);
        Check.same("0 2 0 5", x.where(0, 0, 4), 3);
        for (int hour = 0; hour < 168; hour++) {
            Check.same("at church in " + hour, x.where(0, hour, 4), hour == 154 || hour == 155 ? 7 : 3);
        }
        x.load(0, 60);
        Check.same("on its post", x.where(0, 0, 4), 3);
    }

    private static void rooms() {
        TetherSky x = Check.under("isle 10 10 9 9 2 0 0 0;isle 15 15 19 99 3 0 0 0;isle 16 10 9 9 3 0 0 0;"
                + "isle 10 16 9 9 3 0 0 0;");
        Check.same("apart like both sizes", x.between(0, 1, 0, 0), true);
        Check.same("too far along x", x.between(0, 2, 0, 0), false);
        Check.same("too far along y", x.between(0, 3, 0, 0), false);
        Check.noSuch("what 4", () -> x.between(0, 1, 0, 4));
        Check.noSuch("what -1", () -> x.between(0, 1, 0, -1));
        Check.noSuch("isle 4", () -> x.between(0, 4, 0, 0));
        Check.noSuch("isle 4", () -> x.between(4, 0, 0, 0));
        Check.noSuch("hour", () -> x.between(0, 1, 168, 0));
        Check.illegal("both are one", () -> x.between(2, 2, 0, 0));
        Check.noSuch("what goes ahead", () -> x.between(2, 2, 0, 4));
        Check.noSuch("the hour goes ahead", () -> x.between(2, 2, -1, 0));
        Check.noSuch("the isle goes ahead", () -> x.between(9, 9, 0, 0));
    }

    private static void knocksAndShades() {
        TetherSky x = Check.under("isle 10 10 9 9 1 0 0 0;isle 11 10 10 9 1 0 0 0;isle 12 10 11 9 1 0 0 0;"
                + "isle 13 10 9 9 1 0 0 0;");
        Check.same("1 apart", x.between(0, 1, 0, 1), true);
        Check.same("1 apart the other way", x.between(1, 0, 0, 1), true);
        Check.same("2 apart", x.between(0, 2, 0, 1), false);
        Check.same("not over", x.between(0, 3, 0, 1), false);
        Check.same("in the shade", x.between(0, 2, 0, 2), true);
        Check.same("not the other way", x.between(2, 0, 0, 2), false);
        Check.same("higher by 1", x.between(0, 1, 0, 2), false);
        x.load(0, 60);
        x.load(1, 60);
        Check.same("on posts", x.between(0, 1, 0, 1), true);
    }

    private static void bridges() {
        String isles = "isle 10 10 9 9 1 0 0 0;isle 14 6 11 9 1 0 0 0;isle 15 10 9 9 1 0 0 0;isle 10 11 12 9 1 0 0 0;";
        TetherSky x = Check.under(isles);
        Check.same("reach 2", x.between(0, 1, 0, 3), true);
        Check.same("either way", x.between(1, 0, 0, 3), true);
        Check.same("too far", x.between(0, 2, 0, 3), false);
        Check.same("too high", x.between(0, 3, 0, 3), false);
        TetherSky far = Check.under(isles + "reach 3;");
        Check.same("reach 3 far", far.between(0, 2, 0, 3), true);
        Check.same("reach 3 high", far.between(0, 3, 0, 3), true);
        TetherSky none = Check.under(isles + "reach 0;");
        Check.same("reach 0", none.between(0, 1, 0, 3), false);
    }

    private static void rains() {
        TetherSky x = Check.under("isle 10 10 9 9 1 0 0 0;isle 11 10 14 9 1 0 0 0;isle 10 11 12 9 1 0 0 0;"
                + "isle 9 10 12 9 1 0 0 0;");
        Check.same("from the lowest, of like ones the least", x.rain(0, 0), 2);
        Check.same("from the one", x.rain(2, 0), 1);
        Check.same("none", x.rain(1, 0), -1);
        Check.noSuch("isle", () -> x.rain(4, 0));
        Check.noSuch("hour", () -> x.rain(0, 168));
    }
}
