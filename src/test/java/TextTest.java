/** Promises 1 to 5: a new object, the tape, texts and their faults, counts. */
public final class TextTest {
    private static final String SIX = "isle 0 0 9 9 1 0 0 0;isle 1 0 9 9 1 0 0 0;isle 2 0 9 9 1 0 0 0;"
            + "isle 3 0 9 9 1 0 0 0;isle 4 0 9 9 1 0 0 0;isle 5 0 9 9 1 0 0 0;";

    public static void main(String[] args) {
        newObject();
        tape();
        wholeText();
        emptyText();
        allAnew();
        faultKeepsAll();
        noSuchTape();
        tokens();
        linesOutOfPlace();
        tooMuch();
        numbersAtTheirEdges();
        rules();
        nesting();
        nots();
        taken();
        seconds();
        counts();
        Check.finish();
    }

    private static void newObject() {
        TetherSky x = new TetherSky();
        int[] due = {0, 0, 0, 2, 8, 0, 0, 0, 0, 0, 0, 0};
        for (int what = 0; what < due.length; what++) {
            Check.same("count(" + what + ") of a new object", x.count(what), due[what]);
        }
        Check.same("weight 0", x.count(20), 1);
        for (int what = 21; what <= 23; what++) {
            Check.same("weight " + (what - 20), x.count(what), 0);
        }
        Check.same("fault of a new object", x.fault(), -1);
        Check.noSuch("isle of a new object", () -> x.isle(0, 0));
        Check.same("wind of a new object", x.wind(0, 1), 0);
        Check.same("restore of a new object", x.restore(), false);
    }

    private static void tape() {
        TetherSky x = new TetherSky();
        for (int i = 1; i <= 35; i++) {
            Check.same("feed " + i, x.feed(0x20202020, 0x20202020, 0x20202020, 0x20202020, 0x20202020), 20 * i);
        }
        Check.same("feed 36", x.feed(0, 0, 0, 0, 0), -1);
        Check.same("the tape", x.count(8), 700);
        Check.same("nothing is refused", x.count(9) + x.count(10) + x.count(11), 0);
        Check.same("sky of 700 blanks", x.sky(700), 0);
        Check.same("the tape is empty", x.count(8), 0);
        Check.same("feed anew", x.feed(-1, -1, -1, -1, -1), 20);
        Check.same("bytes of 255", x.sky(20), 1);
        Check.same("at the first", x.fault(), 0);
        x.feed(0x72656163, 0x6820313b, 0x6c696768, 0x7420323b, 0x20202020);
        Check.same("highest byte first", x.sky(16), 0);
        Check.same("reach 1", x.count(3), 1);
        Check.same("light 2", x.count(4), 2);
    }

    private static void wholeText() {
        TetherSky x = Check.under("isle 10 11 20 50 2 6 4 1;\nhill 14 10 10 30 2 4 2 0 ; reef 60 60 60 99 6 20 60 9;"
                + "wind 5 -9 3;wind 0 9 - 9;gusts 1 0 0 9;church west;reach 20;light 24;push 1;");
        int[] due = {3, 2, 3, 20, 24, 0, 0, 0, 0, 0, 0, 0};
        for (int what = 0; what < due.length; what++) {
            Check.same("count(" + what + ")", x.count(what), due[what]);
        }
        Check.same("weight 3", x.count(23), 9);
        int[] reef = {2, 60, 60, 60, 99, 6, 20, 60, 9, 0, 98, 1};
        for (int what = 0; what < reef.length; what++) {
            Check.same("isle(2, " + what + ")", x.isle(2, what), reef[what]);
        }
        Check.same("wind ahead", x.wind(4, 1), -9);
        Check.same("wind then", x.wind(5, 0), -9);
        Check.same("wind then", x.wind(5, 1), 3);
    }

    private static void emptyText() {
        TetherSky x = Check.under("isle 1 1 5 9 1 0 0 0;");
        Check.same("sky(0)", x.sky(0), 0);
        Check.same("no isles", x.count(0), 0);
        Check.feed(x, "isle 1 1 5 9 1 0 0 0;");
        Check.same("of the tape the first bytes", x.sky(0), 0);
        Check.same("no isles", x.count(0), 0);
        Check.same("the tape is empty", x.count(8), 0);
    }

    private static void allAnew() {
        TetherSky x = Check.under("isle 1 1 5 9 1 0 0 0;isle 9 9 5 9 1 0 0 0;wind 3 1 1;church south;gusts 0 1 2 3;"
                + "reach 9;light 9;push 7;");
        x.winch(0, 7);
        x.winch(0, 99);
        x.cross(0, true);
        x.see(0, 0, 9);
        x.see(0, 0, 99);
        x.least(0, 1, 0, false);
        x.image();
        Check.feed(x, "isle 2 2 5 9 1 0 0 0;");
        Check.same("sky", x.sky(21), 0);
        int[] due = {1, 0, 0, 2, 8, 0, 0, 0, 0, 0, 1, 1};
        for (int what = 0; what < due.length; what++) {
            Check.same("count(" + what + ") anew", x.count(what), due[what]);
        }
        Check.same("weights anew", x.count(20) * 1000 + x.count(21) * 100 + x.count(22) * 10 + x.count(23), 1000);
        Check.same("rope anew", x.isle(0, 3), 5);
        Check.same("push anew", x.where(0, 0, 3), 50);
        Check.noSuch("rows are gone", () -> x.rope(0));
        Check.same("the image is gone", x.restore(), false);
        Check.same("acts are gone", x.undo(), -1);
    }

    private static void faultKeepsAll() {
        TetherSky x = Check.under("isle 1 1 5 9 1 0 0 0;isle 9 9 5 9 1 0 0 0;wind 3 1 1;church south;gusts 0 1 2 3;"
                + "reach 9;light 9;push 7;");
        x.winch(0, 7);
        x.cross(0, true);
        x.see(0, 0, 9);
        x.least(0, 1, 0, false);
        x.image();
        Check.feed(x, "isle 2 2 5 9 1 0 0 0;reach 1;light 1;push 5;wind 1 1 1;isle 3;");
        Check.same("sky", x.sky(60), 1);
        Check.same("fault", x.fault(), 60);
        int[] due = {2, 1, 2, 9, 9, 1, 1, 1, 0, 1, 0, 0};
        for (int what = 0; what < due.length; what++) {
            Check.same("count(" + what + ") behind a fault", x.count(what), due[what]);
        }
        Check.same("rope stays", x.isle(0, 3), 7);
        Check.same("row stays", x.rope(0), 7);
        Check.same("push stays", x.where(0, 0, 3), 7);
        Check.same("wind stays", x.wind(3, 0), 1);
        Check.same("the image stays", x.restore(), true);
        Check.same("its status", x.count(9), 0);
        Check.same("the fault's place is not in it", x.fault(), 60);
        Check.same("sky again", x.sky(0), 0);
        Check.same("no fault", x.fault(), -1);
    }

    private static void noSuchTape() {
        TetherSky x = new TetherSky();
        Check.feed(x, "x");
        Check.same("a fault", x.sky(1), 1);
        Check.feed(x, "isle 1 1 5 9 1 0 0 0;");
        Check.illegal("sky(41)", () -> x.sky(41));
        Check.illegal("sky(-1)", () -> x.sky(-1));
        Check.illegal("sky(least)", () -> x.sky(Integer.MIN_VALUE));
        Check.same("the tape stays", x.count(8), 40);
        Check.same("the fault stays", x.fault(), 0);
        Check.same("the status stays", x.count(9), 1);
        Check.same("sky(40)", x.sky(40), 0);
        Check.illegal("sky(1) of an empty tape", () -> x.sky(1));
    }

    private static void tokens() {
        Check.faulty("reach2;", 0, -1);
        Check.faulty("\n reach\n2 ;\n", 0, -1);
        Check.faulty("reach\t2;", 1, 5);
        Check.faulty("reach\r2;", 1, 5);
        Check.faulty("Reach 2;", 1, 0);
        Check.faulty("reach #2;", 1, 6);
        Check.faulty("reach 2#;", 1, 7);
        Check.faulty("reac h 2;", 1, 0);
        Check.faulty("reach 0002;", 0, -1);
        Check.faulty("reach 00002;", 2, 6);
        Check.faulty("reach 2 2;", 1, 8);
        Check.faulty("reach 2 12345;", 1, 8);
        Check.faulty("12345;", 1, 0);
        Check.faulty(";", 1, 0);
        Check.faulty("reach 2;;", 1, 8);
        Check.faulty("reach 2;  x", 1, 10);
        Check.faulty("reach " + (char) 0 + ";", 1, 6);
        Check.faulty("push 1" + (char) 200 + ";", 1, 6);
        Check.faulty("push" + (char) 235 + ";", 1, 4);
        TetherSky x = new TetherSky();
        Check.feed(x, "reach 2;x");
        Check.same("only the first bytes count", x.sky(8), 0);
    }

    private static void linesOutOfPlace() {
        Check.faulty("isle", 1, 4);
        Check.faulty("isle  ", 1, 6);
        Check.faulty("isle 1 1 5 9 1 0 0;", 1, 18);
        Check.faulty("isle 1 1 5 9 1 0 0 0", 1, 20);
        Check.faulty("isle 1 1 5 9 1 0 0 0 0;", 1, 21);
        Check.faulty("isle -1 1 5 9 1 0 0 0;", 1, 5);
        Check.faulty("isle 1 x 5 9 1 0 0 0;", 1, 7);
        Check.faulty("wind 1 1;", 1, 8);
        Check.faulty("wind -1 1 1;", 1, 5);
        Check.faulty("wind 1 --1 1;", 1, 8);
        Check.faulty("wind 1 - - 1;", 1, 9);
        Check.faulty("wind 1 +1 1;", 1, 7);
        Check.faulty("wind 1 -;", 1, 8);
        Check.faulty("church;", 1, 6);
        Check.faulty("church up;", 1, 7);
        Check.faulty("church 1;", 1, 7);
        Check.faulty("church north east;", 1, 13);
        Check.faulty("gusts 1 1 1;", 1, 11);
        Check.faulty("gusts 1 1 1 1 1;", 1, 14);
        Check.faulty("reach;", 1, 5);
        Check.faulty("reach -1;", 1, 6);
        Check.faulty("light;", 1, 5);
        Check.faulty("light 1", 1, 7);
        Check.faulty("push;", 1, 4);
        Check.faulty("push", 1, 4);
        Check.faulty("north;", 1, 0);
        Check.faulty("lift;", 1, 0);
    }

    private static void tooMuch() {
        Check.faulty("isle 61 1 5 9 1 0 0 0;", 2, 5);
        Check.faulty("isle 1 61 5 9 1 0 0 0;", 2, 7);
        Check.faulty("isle 1 1 0 9 1 0 0 0;", 2, 9);
        Check.faulty("isle 1 1 61 9 1 0 0 0;", 2, 9);
        Check.faulty("isle 1 1 5 0 1 0 0 0;", 2, 11);
        Check.faulty("isle 1 1 5 100 1 0 0 0;", 2, 11);
        Check.faulty("isle 1 1 5 9 0 0 0 0;", 2, 13);
        Check.faulty("isle 1 1 5 9 7 0 0 0;", 2, 13);
        Check.faulty("isle 1 1 5 9 1 21 0 0;", 2, 15);
        Check.faulty("isle 1 1 5 9 1 0 61 0;", 2, 17);
        Check.faulty("isle 1 1 5 9 1 0 0 10;", 2, 19);
        Check.faulty("wind 168 0 0;", 2, 5);
        Check.faulty("wind 0 10 0;", 2, 7);
        Check.faulty("wind 0 -10 0;", 2, 8);
        Check.faulty("wind 0 0 - 10;", 2, 11);
        Check.faulty("gusts 10 0 0 0;", 2, 6);
        Check.faulty("gusts 0 0 0 10;", 2, 12);
        Check.faulty("gusts 0 0 0 0;", 2, 12);
        Check.faulty("reach 21;", 2, 6);
        Check.faulty("light 25;", 2, 6);
        Check.faulty(SIX, 0, -1);
        Check.faulty(SIX + "isle 6 0 9 9 1 0 0 0;", 2, SIX.length());
        Check.faulty(SIX + " reef;", 2, SIX.length() + 1);
        Check.faulty(SIX + " reach;", 1, SIX.length() + 6);
        StringBuilder winds = new StringBuilder();
        for (int i = 0; i < 12; i++) {
            winds.append("wind ").append(i).append(" 1 1;");
        }
        Check.faulty(winds.toString(), 0, -1);
        Check.faulty(winds + "wind 0 1 1;", 2, winds.length());
        Check.faulty(winds + "wind", 2, winds.length());
    }

    private static void numbersAtTheirEdges() {
        Check.faulty("isle 0 0 1 1 1 0 0 0;reef 60 60 60 99 6 20 60 9;", 0, -1);
        Check.faulty("wind 0 -9 -9;wind 167 9 9;", 0, -1);
        Check.faulty("wind 0 -0 0000;", 0, -1);
        Check.faulty("gusts 0 0 0 1;", 0, -1);
        Check.faulty("gusts 9 9 9 9;", 0, -1);
        Check.faulty("gusts 1 0 0 0;", 0, -1);
        Check.faulty("reach 0;light 0;", 0, -1);
        Check.faulty("reach 20;light 24;", 0, -1);
    }

    private static void rules() {
        Check.faulty("push 9999;", 0, -1);
        Check.faulty("push 10000;", 2, 5);
        Check.faulty("push 1 10000;", 1, 7);
        Check.faulty("push lift+weight-rope*knots/people<hour;", 0, -1);
        Check.faulty("push day=size or 1 and not 2;", 0, -1);
        Check.faulty("push lifts;", 3, 5);
        Check.faulty("push isle;", 3, 5);
        Check.faulty("push or 1;", 3, 5);
        Check.faulty("push and;", 3, 5);
        Check.faulty("push 1+not 1;", 3, 7);
        Check.faulty("push 1<not 1;", 3, 7);
        Check.faulty("push 1 not 1;", 1, 7);
        Check.faulty("push 1 lift;", 1, 7);
        Check.faulty("push 1 foo;", 1, 7);
        Check.faulty("push 1<2<3;", 1, 8);
        Check.faulty("push 1=2=3;", 1, 8);
        Check.faulty("push (1<2)<3;", 0, -1);
        Check.faulty("push -1;", 1, 5);
        Check.faulty("push 1--1;", 1, 7);
        Check.faulty("push 1+;", 1, 7);
        Check.faulty("push 1+", 1, 7);
        Check.faulty("push (1;", 1, 7);
        Check.faulty("push 1);", 1, 6);
        Check.faulty("push ();", 1, 6);
        Check.faulty("push 1 2;", 1, 7);
        Check.faulty("push 1 or;", 1, 9);
        Check.faulty("push 1 or or;", 3, 10);
        Check.faulty("push 1", 1, 6);
        Check.faulty("push a;", 3, 5);
        Check.faulty("push z;", 3, 5);
        Check.faulty("push `;", 1, 5);
        Check.faulty("push {;", 1, 5);
        Check.faulty("push 1:", 1, 6);
    }

    private static void nesting() {
        Check.faulty("push (((((1)))));", 0, -1);
        Check.faulty("push ((((((1))))));", 2, 11);
        Check.faulty("push ((((((lift))))));", 2, 11);
        Check.faulty("push ((((((foo))))));", 2, 11);
        Check.faulty("push ((((((not 1))))));", 2, 11);
        Check.faulty("push (((((((1)))))));", 2, 11);
        Check.faulty("push ((((((12345))))));", 2, 11);
        Check.faulty("push (((((( );", 1, 12);
        Check.faulty("push ((((((;", 1, 11);
        Check.faulty("push ((((((#", 1, 11);
        Check.faulty("push ((((((", 1, 11);
        Check.faulty("push (((((1))))) + (((((2)))));", 0, -1);
        Check.faulty("push 1+(2*(3-(4/(5<(lift or 1)))));", 0, -1);
    }

    private static void nots() {
        Check.faulty("push not not not not not not 1;", 0, -1);
        Check.faulty("push not not not not not not not 1;", 2, 29);
        Check.faulty("push not not not not not not foo;", 3, 29);
        Check.faulty("push not not not not not not (not not not not not not 1);", 0, -1);
        Check.faulty("push not not not not not not 1 and not not not not not not 1;", 0, -1);
        Check.faulty("push not 1 = not 1;", 3, 13);
        Check.faulty("push not;", 1, 8);
        Check.faulty("push not or;", 3, 9);
    }

    private static void taken() {
        Check.faulty("isle 1 2 5 9 1 0 0 0;hill 1 2 5 9 1 0 0 0;", 4, 28);
        Check.faulty("isle 1 2 5 9 1 0 0 0;hill 2 1 5 9 1 0 0 0;", 0, -1);
        Check.faulty("isle 1 2 5 9 1 0 0 0;hill 1 61 5 9 1 0 0 0;", 2, 28);
        Check.faulty("isle 1 2 5 9 1 0 0 0;hill 1 02 5 9 1 0 0 0;", 4, 28);
        Check.faulty("wind 5 1 1;wind 5 1 1;", 4, 16);
        Check.faulty("wind 5 1 1;wind 4 1 1;wind 0005 1 1;", 4, 27);
    }

    private static void seconds() {
        Check.faulty("church north;church north;", 5, 13);
        Check.faulty("gusts 1 0 0 0;gusts 1 0 0 0;", 5, 14);
        Check.faulty("reach 2;reach 2;", 5, 8);
        Check.faulty("light 2;light 2;", 5, 8);
        Check.faulty("push 2;push", 5, 7);
        Check.faulty("reach 2;light 2;push 2;church east;gusts 1 1 1 1;reach", 5, 49);
        TetherSky x = Check.under("reach 3;");
        Check.feed(x, "reach 4;");
        Check.same("a second text", x.sky(8), 0);
        Check.same("its reach", x.count(3), 4);
    }

    private static void counts() {
        TetherSky x = new TetherSky();
        int[] none = {-1, 12, 13, 19, 24, Integer.MAX_VALUE, Integer.MIN_VALUE};
        for (int what : none) {
            Check.noSuch("count(" + what + ")", () -> x.count(what));
        }
    }
}
