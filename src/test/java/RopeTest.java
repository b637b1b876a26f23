/** Promises 24 to 30: crossings, what is seen, ropes let out by night, loads by heights. */
public final class RopeTest {
    private static final String THREE = "isle 10 10 20 50 2 6 4 1;isle 30 10 55 30 2 4 2 0;isle 50 16 9 40 1 0 0 0;";

    public static void main(String[] args) {
        crossings();
        fewIsles();
        freeing();
        tangles();
        seeing();
        fitting();
        weighing();
        Check.finish();
    }

    private static void crossings() {
        TetherSky x = Check.under(THREE);
        Check.same("no such place", x.cross(-1, true), -1);
        Check.same("no such place", x.cross(2, true), -1);
        Check.same("refused", x.count(11), 2);
        for (int i = 1; i <= 40; i++) {
            Check.same("cross", x.cross(i % 2, true), i);
        }
        Check.same("there are 40", x.cross(0, true), -1);
        Check.same("refused", x.count(11), 3);
        Check.same("all are left", x.freed(-1), 40);
        Check.same("the last", x.freed(39), 10);
        Check.same("the first", x.freed(0), 11);
        for (int left = 39; left >= 0; left--) {
            Check.same("uncross", x.uncross(), left);
        }
        Check.same("there is none", x.uncross(), -1);
        Check.same("that is not refused", x.count(11), 3);
        Check.same("no act", x.count(5) + x.count(10), 0);
    }

    private static void fewIsles() {
        Check.same("no isle", new TetherSky().cross(0, true), -1);
        Check.same("one isle", Check.under("isle 1 1 9 9 1 0 0 0;").cross(0, true), -1);
        TetherSky x = Check.under("isle 1 1 9 9 1 0 0 0;isle 5 1 9 9 1 0 0 0;");
        Check.same("two isles", x.cross(0, false), 1);
        Check.same("one place", x.cross(1, false), -1);
    }

    private static void freeing() {
        TetherSky x = Check.under(THREE);
        Check.same("none", x.freed(-1), 0);
        Check.noSuch("none", () -> x.freed(0));
        x.cross(0, true);
        x.cross(0, true);
        Check.same("like ways stay", x.freed(-1), 2);
        x.cross(1, false);
        x.cross(1, true);
        x.cross(0, false);
        Check.same("freed again and again", x.freed(-1), 1);
        Check.same("place 0 over", x.freed(0), 10);
        Check.noSuch("none behind", () -> x.freed(1));
        Check.noSuch("what -2", () -> x.freed(-2));
        Check.same("all are there still", x.count(6), 5);
        x.cross(1, false);
        Check.same("place 1 under", x.freed(1), 1);
        x.cross(0, false);
        Check.same("not side by side", x.freed(-1), 3);
        Check.same("place 0 under", x.freed(2), 0);
    }

    private static void tangles() {
        TetherSky x = Check.under(THREE);
        Check.same("where it was", x.tangle(2, 0), 2);
        Check.same("not knotted", x.tangle(2, 1), 0);
        x.cross(0, true);
        x.cross(1, true);
        Check.same("rope 0", x.tangle(0, 0), 2);
        Check.same("rope 1", x.tangle(1, 0), 0);
        Check.same("rope 2", x.tangle(2, 0), 1);
        x.cross(1, true);
        Check.same("rope 2 is where it was", x.tangle(2, 0), 2);
        Check.same("others are not", x.tangle(2, 1), 0);
        x.cross(0, true);
        Check.same("knotted", x.tangle(0, 1), 4);
        Check.same("for all", x.tangle(2, 1), 4);
        x.cross(0, true);
        x.cross(0, false);
        Check.same("what is left", x.tangle(1, 1), 4);
        Check.noSuch("isle", () -> x.tangle(3, 0));
        Check.noSuch("isle", () -> x.tangle(-1, 1));
        Check.noSuch("what", () -> x.tangle(0, 2));
        Check.noSuch("what", () -> x.tangle(0, -1));
    }

    private static void seeing() {
        TetherSky x = Check.under(THREE);
        Check.same("61 high", x.see(0, 0, 61), -1);
        Check.same("-1 high", x.see(0, 0, -1), -1);
        for (int i = 1; i <= 12; i++) {
            Check.same("see", x.see(i % 3, 167, i % 2 * 60), i);
        }
        Check.same("there are 12", x.see(0, 0, 0), -1);
        Check.same("refused", x.count(11), 3);
        Check.noSuch("isle", () -> x.see(3, 0, 0));
        Check.noSuch("hour", () -> x.see(0, 168, 0));
        Check.noSuch("ahead", () -> x.see(0, -1, 99));
        Check.same("not counted", x.count(11), 3);
        Check.same("seen", x.count(7), 12);
    }

    private static void fitting() {
        TetherSky x = Check.under(THREE);
        Check.same("without what is seen all fits, to 60", x.fits(0), 9 + 5 + 9);
        Check.same("the first", x.fits(1), 1);
        x.see(1, 5, 57);
        Check.same("one", x.fits(0), 1);
        Check.same("isle 1 by 2", x.fits(1), 12);
        x.see(0, 5, 20);
        Check.same("still", x.fits(1), 12);
        x.see(0, 5, 21);
        Check.same("none", x.fits(0), 0);
        Check.same("none", x.fits(1), -1);
        TetherSky own = Check.under(THREE);
        own.see(0, 0, 20);
        Check.same("by others alone", own.fits(0), 14);
        Check.same("the first of them", own.fits(1), 11);
        own.winch(1, 60);
        Check.same("60 can't be let out", own.fits(1), 21);
        Check.noSuch("what", () -> x.fits(2));
        Check.noSuch("what", () -> x.fits(-1));
        TetherSky ruled = Check.under("isle 10 10 20 50 2 0 0 0;wind 0 9 0;push (rope=23)*100;");
        ruled.see(0, 0, 0);
        Check.same("the rule sees the rope", ruled.fits(0) * 100 + ruled.fits(1), 103);
    }

    private static void weighing() {
        TetherSky x = Check.under(THREE);
        Check.same("while it floats", x.weighed(0, 0, 20, 0), 42);
        Check.same("the least", x.weighed(0, 0, 20, 1), 0);
        Check.same("on its post", x.weighed(0, 0, 0, 0), 19);
        Check.same("the least", x.weighed(0, 0, 0, 1), 42);
        Check.same("none", x.weighed(0, 0, 19, 0), 0);
        Check.same("none", x.weighed(0, 0, 19, 1), -1);
        Check.same("none so high", x.weighed(0, 0, Integer.MAX_VALUE, 1), -1);
        Check.same("none so low", x.weighed(0, 0, -1, 1), -1);
        Check.same("the load stays", x.isle(0, 7), 4);
        Check.noSuch("isle", () -> x.weighed(3, 0, 0, 0));
        Check.noSuch("hour", () -> x.weighed(0, 168, 0, 0));
        Check.noSuch("what", () -> x.weighed(0, 0, 0, 2));
        TetherSky ruled = Check.under("hill 10 10 20 99 2 3 0 1;wind 0 9 0;push weight;");
        Check.same("20 less 20 by the push by 100", ruled.weighed(0, 0, 10, 0), 5);
        Check.same("weight 50", ruled.weighed(0, 0, 10, 1), 40);
    }
}
