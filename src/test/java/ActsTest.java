/** Promises 11 to 16, 37 and 38: acts, what undoes them, the image. */
public final class ActsTest {
    private static final String TWO = "isle 10 10 20 99 2 6 4 1;isle 12 10 20 99 2 0 0 9;isle 50 50 9 9 1 0 0 0;";

    public static void main(String[] args) {
        winches();
        knots();
        loads();
        goats();
        walks();
        undoing();
        fortyActs();
        images();
        Check.finish();
    }

    private static void refused(String what, TetherSky x, int acts, int refusals) {
        Check.same("acts behind " + what, x.count(5), acts);
        Check.same("refusals behind " + what, x.count(10), refusals);
    }

    private static void winches() {
        TetherSky x = Check.under(TWO);
        Check.same("winch", x.winch(0, 60), 20);
        Check.same("winch", x.winch(0, 1), 60);
        Check.same("where all is as it was", x.winch(0, 1), 1);
        refused("winches", x, 3, 0);
        Check.same("winch to 0", x.winch(0, 0), -1);
        Check.same("winch to 61", x.winch(0, 61), -1);
        refused("bad winches", x, 3, 2);
        Check.noSuch("no such isle", () -> x.winch(3, 5));
        Check.noSuch("it goes ahead", () -> x.winch(-1, 0));
        refused("exceptions", x, 3, 2);
        Check.same("rope", x.isle(0, 3), 1);
    }

    private static void knots() {
        TetherSky x = Check.under(TWO);
        Check.same("less than none", x.knot(0, false), -1);
        for (int i = 1; i <= 60; i++) {
            Check.same("knot " + i, x.knot(0, true), i);
        }
        Check.same("knot 61", x.knot(0, true), -1);
        Check.same("one less", x.knot(0, false), 59);
        refused("knots", x, 40, 2);
        Check.noSuch("no such isle", () -> x.knot(3, true));
        Check.same("knots", x.isle(0, 9), 59);
    }

    private static void loads() {
        TetherSky x = Check.under(TWO);
        Check.same("load", x.load(0, 60), 4);
        Check.same("load", x.load(0, 0), 60);
        Check.same("load", x.load(0, 61), -1);
        Check.same("load", x.load(0, -1), -1);
        refused("loads", x, 2, 2);
        Check.noSuch("no such isle", () -> x.load(-1, 99));
        Check.same("weight", x.isle(0, 10), 8);
    }

    private static void goats() {
        TetherSky x = Check.under(TWO);
        Check.same("the other one has 9", x.goat(0, 1, 0), false);
        Check.same("a goat", x.goat(1, 0, 0), true);
        Check.same("goats there", x.isle(0, 8), 2);
        Check.same("goats here", x.isle(1, 8), 8);
        Check.same("both are one", x.goat(0, 0, 0), false);
        Check.same("no bridge", x.goat(0, 2, 0), false);
        Check.same("no goat", x.goat(2, 0, 0), false);
        refused("goats", x, 1, 4);
        Check.noSuch("from", () -> x.goat(3, 0, 0));
        Check.noSuch("to", () -> x.goat(0, 3, 0));
        Check.noSuch("hour", () -> x.goat(0, 1, 168));
        Check.noSuch("hour goes ahead", () -> x.goat(0, 0, -1));
        refused("exceptions", x, 1, 4);
        TetherSky blown = Check.under("isle 10 10 20 99 2 0 0 3;reef 15 10 20 30 1 0 0 0;wind 3 9 0;");
        Check.same("near enough", blown.goat(0, 1, 2), true);
        Check.same("not in that hour", blown.goat(0, 1, 3), false);
    }

    private static void walks() {
        TetherSky x = Check.under(TWO);
        Check.same("sides 2 2 1 1", x.walk(0, 0, 3, 2), 3);
        Check.same("none is left", x.walk(0, 0, 3, 1), -1);
        Check.same("back", x.walk(0, 3, 0, 3), 3);
        Check.same("no such side", x.walk(0, -1, 0, 1), -1);
        Check.same("no such side", x.walk(0, 4, 0, 1), -1);
        Check.same("no such side", x.walk(0, 0, 4, 1), -1);
        Check.same("no such side", x.walk(0, 0, -1, 1), -1);
        Check.same("both are one", x.walk(0, 0, 0, 1), -1);
        Check.same("so many are not there", x.walk(0, 0, 1, 4), -1);
        Check.same("below 1", x.walk(0, 0, 1, 0), -1);
        Check.same("below 1", x.walk(0, 0, 1, -1), -1);
        refused("walks", x, 2, 9);
        Check.noSuch("no such isle", () -> x.walk(3, 0, 1, 1));
        Check.same("people", x.isle(0, 6), 6);
        Check.same("north", x.isle(0, 12), 3);
        Check.same("west", x.isle(0, 15), 0);
    }

    private static void undoing() {
        TetherSky x = Check.under(TWO);
        Check.same("nothing to undo", x.undo(), -1);
        x.winch(0, 30);
        x.knot(0, true);
        x.load(0, 50);
        x.goat(1, 0, 0);
        x.walk(0, 0, 3, 2);
        x.knot(0, false);
        x.load(0, 50);
        refused("seven acts", x, 6, 1);
        x.load(0, 4);
        x.goat(1, 0, 0);
        refused("eight acts", x, 7, 2);
        Check.same("goats still", x.isle(0, 8), 1);
        Check.same("undo a load", x.undo(), 6);
        Check.same("load", x.isle(0, 7), 50);
        Check.same("undo a load as it was", x.undo(), 5);
        Check.same("load", x.isle(0, 7), 50);
        Check.same("undo a knot less", x.undo(), 4);
        Check.same("knots", x.isle(0, 9), 1);
        Check.same("undo a walk", x.undo(), 3);
        Check.same("north", x.isle(0, 12), 2);
        Check.same("west", x.isle(0, 15), 1);
        Check.same("undo a load", x.undo(), 2);
        Check.same("load", x.isle(0, 7), 4);
        Check.same("undo a knot", x.undo(), 1);
        Check.same("knots", x.isle(0, 9), 0);
        Check.same("undo a winch", x.undo(), 0);
        Check.same("rope", x.isle(0, 3), 20);
        Check.same("nothing is left", x.undo(), -1);
        refused("all undone", x, 0, 2);
        Check.same("a goat", x.goat(1, 0, 0), true);
        Check.same("undo a goat", x.undo(), 0);
        Check.same("goats", x.isle(0, 8) * 10 + x.isle(1, 8), 19);
    }

    private static void fortyActs() {
        TetherSky x = Check.under(TWO);
        for (int i = 1; i <= 43; i++) {
            x.winch(0, i);
            Check.same("acts", x.count(5), Math.min(i, 40));
        }
        for (int left = 39; left >= 0; left--) {
            Check.same("undo", x.undo(), left);
            Check.same("rope", x.isle(0, 3), left + 3);
        }
        Check.same("the first three can't be undone", x.undo(), -1);
    }

    private static void images() {
        TetherSky x = Check.under(TWO);
        Check.same("no image", x.restore(), false);
        changeAll(x);
        x.image();
        int[] due = told(x);
        x.undo();
        x.undo();
        changeAll(x);
        x.undo();
        x.uncross();
        x.winch(0, 0);
        x.cross(0, false);
        x.see(2, 2, 2);
        x.see(2, 2, 99);
        Check.feed(x, "x");
        x.sky(1);
        Check.same("it is as the image", x.restore(), true);
        int[] again = told(x);
        for (int i = 0; i < due.length; i++) {
            Check.same("told " + i, again[i], due[i]);
        }
        Check.same("the walk is undone", x.undo(), due[5] - 1);
        Check.same("once more", x.restore(), true);
        Check.same("acts", x.count(5), due[5]);
        x.winch(0, 44);
        x.image();
        x.winch(0, 45);
        Check.same("the newer image", x.restore(), true);
        Check.same("rope", x.isle(0, 3), 44);
    }

    private static void changeAll(TetherSky x) {
        x.winch(0, 24);
        x.knot(0, true);
        x.load(1, 7);
        x.goat(1, 0, 0);
        x.walk(0, 0, 3, 1);
        x.winch(1, 99);
        x.cross(1, true);
        x.cross(9, true);
        x.see(1, 3, 9);
    }

    private static int[] told(TetherSky x) {
        int[] row = new int[12 + 3 * 16 + 3];
        for (int what = 0; what < 12; what++) {
            row[what] = what == 8 ? 0 : x.count(what);
        }
        for (int i = 0; i < 48; i++) {
            row[12 + i] = x.isle(i / 16, i % 16);
        }
        row[60] = x.freed(-1);
        row[61] = x.freed(0);
        row[62] = x.fits(0);
        return row;
    }
}
