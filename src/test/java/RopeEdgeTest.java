/** The edges that the document's words on CROSSINGS and what is SEEN name (promises 24 to 30): a sentence ahead of each. */
public final class RopeEdgeTest {
    public static void main(String[] args) {
        places();
        fortyCrossings();
        noneToUncross();
        undoingEachOther();
        sideBySide();
        againAndAgain();
        leftOnes();
        whereRopesAre();
        knotted();
        highs();
        twelveSeen();
        yardsLetOut();
        notAboveSixty();
        firstThatFits();
        allThatIsSeen();
        seenInItsHour();
        lettingOutFloats();
        fitsByActs();
        loadsWeighed();
        loadsByTheRule();
        weighedByActs();
        Check.finish();
    }

    private static TetherSky isles(int many) {
        StringBuilder text = new StringBuilder();
        for (int i = 0; i < many; i++) {
            text.append("isle ").append(10 * i).append(" 1 ").append(20 + i).append(" 50 1 0 0 0;");
        }
        return Check.under(text.toString());
    }

    // ---- crossings ----

    /** "of the i-th and the next one (0 to ISLES less 2 ...)"; "NONE (STATUS 2): ... no such place" */
    private static void places() {
        for (int many = 0; many <= 6; many++) {
            for (int place = -2; place <= 7; place++) {
                TetherSky x = isles(many);
                boolean good = place >= 0 && place <= many - 2;
                Check.same(many + " ISLES, place " + place, x.cross(place, true), good ? 1 : -1);
                Check.same("CROSSINGS", x.count(6), good ? 1 : 0);
                Check.same("STATUS 2", x.count(11), good ? 0 : 1);
                Check.same("no other STATUS", x.count(9) + x.count(10), 0);
                Check.same("no ACT", x.count(5), 0);
                Check.same("left", x.freed(-1), good ? 1 : 0);
                if (good) {
                    Check.same("its place, over", x.freed(0), 10 + place);
                    Check.same("under", x.cross(place, false), 2);
                }
            }
        }
    }

    /** "CROSSINGS (at most 40)"; "NONE (STATUS 2): there are 40" */
    private static void fortyCrossings() {
        TetherSky x = isles(3);
        for (int i = 1; i <= 40; i++) {
            Check.same("how many there are", x.cross(i % 2, true), i);
        }
        for (int i = 1; i <= 3; i++) {
            Check.same("there are 40", x.cross(i % 2, i == 2), -1);
            Check.same("STATUS 2", x.count(11), i);
            Check.same("CROSSINGS", x.count(6), 40);
        }
        Check.same("no such place is refused once", x.cross(5, true), -1);
        Check.same("STATUS 2", x.count(11), 4);
        for (int i = 0; i < 40; i++) {
            Check.same("each as it was", x.freed(i), 10 + (i + 1) % 2);
        }
        Check.same("one less", x.uncross(), 39);
        Check.same("so one more can be", x.cross(0, false), 40);
        Check.same("and no other one", x.cross(0, false), -1);
        Check.same("the last one and the one ahead of it", x.freed(-1), 40);
        Check.same("the last one", x.freed(39), 0);
    }

    /** "What crossed last is UNDONE: how many are left. NONE: there is none." */
    private static void noneToUncross() {
        TetherSky x = isles(3);
        long[] due = Whole.of(isles(3));
        Check.same("there is none", x.uncross(), -1);
        Check.same("nor now", x.uncross(), -1);
        Check.sameRow("nothing changes, no refusal is counted", Whole.of(x), due);
        TetherSky y = isles(3);
        y.cross(0, true);
        y.cross(1, false);
        y.cross(0, false);
        Check.same("the third", y.uncross(), 2);
        Check.same("the second is the last", y.freed(1), 1);
        Check.same("the second", y.uncross(), 1);
        Check.same("the first is the last", y.freed(0), 10);
        Check.same("the first", y.uncross(), 0);
        Check.same("there is none", y.uncross(), -1);
        Check.same("one anew", y.cross(1, true), 1);
        Check.same("it alone", y.freed(0), 11);
    }

    /** Each number a CROSSING: its place, and 10 if it goes over. */
    private static TetherSky crossed(int... row) {
        TetherSky x = isles(6);
        for (int crossing : row) {
            x.cross(crossing % 10, crossing >= 10);
        }
        return x;
    }

    private static void left(TetherSky x, int... due) {
        Check.same("left", x.freed(-1), due.length);
        for (int i = 0; i < due.length; i++) {
            Check.same("left " + i, x.freed(i), due[i]);
        }
        Check.noSuch("no more are left", () -> x.freed(due.length));
        Check.noSuch("nor ahead", () -> x.freed(-2));
    }

    /** "the same place, unlike ways" */
    private static void undoingEachOther() {
        for (int one = 0; one < 5; one++) {
            left(crossed(one, one + 10));
            left(crossed(one + 10, one));
            left(crossed(one, one), one, one);
            left(crossed(one + 10, one + 10), one + 10, one + 10);
            for (int two = 0; two < 5; two++) {
                if (one != two) {
                    left(crossed(one, two), one, two);
                    left(crossed(one, two + 10), one, two + 10);
                    left(crossed(one + 10, two), one + 10, two);
                }
            }
        }
        left(crossed());
        left(crossed(0), 0);
        left(crossed(14), 14);
    }

    /** "side by side" */
    private static void sideBySide() {
        left(crossed(0, 1, 10), 0, 1, 10);
        left(crossed(0, 3, 10), 0, 3, 10);
        left(crossed(10, 1, 0), 10, 1, 0);
        left(crossed(2, 12, 1), 1);
        left(crossed(1, 2, 12), 1);
        left(crossed(0, 10, 0), 0);
        left(crossed(10, 0, 10), 10);
        left(crossed(0, 0, 10, 10));
        left(crossed(0, 0, 10), 0);
    }

    /** "are FREED, again and again till there are none" */
    private static void againAndAgain() {
        left(crossed(0, 1, 11, 10));
        left(crossed(0, 1, 2, 12, 11, 10, 3), 3);
        left(crossed(4, 0, 1, 11, 10, 14));
        left(crossed(0, 10, 1, 11, 2, 12));
        left(crossed(0, 1, 11, 10, 10, 1, 11, 0));
        int[] nested = new int[40];
        for (int i = 0; i < 20; i++) {
            nested[i] = i % 5;
            nested[39 - i] = 10 + i % 5;
        }
        left(crossed(nested));
        nested[39] = 0;
        left(crossed(nested), 0, 0);
        nested[0] = 10;
        left(crossed(nested));
    }

    /** "of the i-th of these its place, and 10 if it went over"; what is FREED is still there. */
    private static void leftOnes() {
        TetherSky x = crossed(3, 1, 11, 14);
        left(x, 3, 14);
        Check.same("CROSSINGS", x.count(6), 4);
        Check.same("uncross", x.uncross(), 3);
        left(x, 3);
        Check.same("uncross", x.uncross(), 2);
        left(x, 3, 1);
    }

    private static void placesOf(TetherSky x, int... due) {
        for (int isle = 0; isle < due.length; isle++) {
            Check.same("rope " + isle + " is at", x.tangle(isle, 0), due[isle]);
        }
    }

    /** "WHERE a rope is behind all of them." */
    private static void whereRopesAre() {
        placesOf(crossed(), 0, 1, 2, 3, 4, 5);
        placesOf(crossed(0), 1, 0, 2, 3, 4, 5);
        placesOf(crossed(10), 1, 0, 2, 3, 4, 5);
        placesOf(crossed(4), 0, 1, 2, 3, 5, 4);
        placesOf(crossed(0, 1, 2, 3, 4), 5, 0, 1, 2, 3, 4);
        placesOf(crossed(4, 13, 2, 11, 0), 1, 2, 3, 4, 5, 0);
        placesOf(crossed(0, 2, 14), 1, 0, 3, 2, 5, 4);
        placesOf(crossed(0, 0), 0, 1, 2, 3, 4, 5);
        placesOf(crossed(0, 10), 0, 1, 2, 3, 4, 5);
        placesOf(crossed(0, 1, 0), 2, 1, 0, 3, 4, 5);
        placesOf(crossed(0, 1, 1), 1, 0, 2, 3, 4, 5);
        TetherSky x = crossed(0, 1);
        x.uncross();
        placesOf(x, 1, 0, 2, 3, 4, 5);
    }

    private static void knottedAll(TetherSky x, int due) {
        for (int isle = 0; isle < 6; isle++) {
            Check.same("KNOTTED by rope " + isle, x.tangle(isle, 1), due);
        }
    }

    /** "KNOTTED is what is left, if each rope is where it was"; "0 else" */
    private static void knotted() {
        knottedAll(crossed(), 0);
        knottedAll(crossed(0), 0);
        knottedAll(crossed(4), 0);
        knottedAll(crossed(0, 0), 2);
        knottedAll(crossed(14, 14), 2);
        knottedAll(crossed(0, 10), 0);
        knottedAll(crossed(0, 0, 4), 0);
        knottedAll(crossed(0, 0, 4, 14), 2);
        knottedAll(crossed(0, 0, 4, 4), 4);
        knottedAll(crossed(0, 0, 0), 0);
        knottedAll(crossed(0, 1, 0, 1, 0, 1), 6);
        knottedAll(crossed(0, 1, 10, 11, 0, 11), 6);
        knottedAll(crossed(0, 1, 0, 11, 10, 11), 6);
        knottedAll(crossed(0, 1, 1, 0), 4);
        knottedAll(crossed(0, 1, 11, 0), 2);
    }

    // ---- what is seen ----

    /** "NONE (STATUS 2): ... it is not 0 to 60 high" */
    private static void highs() {
        for (int high = -2; high <= 63; high++) {
            TetherSky x = isles(2);
            boolean good = high >= 0 && high <= 60;
            Check.same("see " + high, x.see(1, 167, high), good ? 1 : -1);
            Check.same("SEEN", x.count(7), good ? 1 : 0);
            Check.same("STATUS 2", x.count(11), good ? 0 : 1);
            Check.same("no other STATUS", x.count(9) + x.count(10), 0);
            Check.same("how many fit", x.fits(0), !good ? 18 : high == 21 ? 9 : high >= 22 && high <= 30 ? 1 : 0);
        }
    }

    /** "SEEN (at most 12)"; "there are 12"; "NoSuchElementException (ahead): no such ISLE, HOUR" */
    private static void twelveSeen() {
        TetherSky x = isles(2);
        for (int i = 1; i <= 12; i++) {
            Check.same("how much is", x.see(0, i, 25), i);
        }
        for (int i = 1; i <= 3; i++) {
            Check.same("there are 12", x.see(0, 0, 25), -1);
            Check.same("SEEN", x.count(7), 12);
            Check.same("STATUS 2", x.count(11), i);
        }
        Check.same("not so high either", x.see(0, 0, 61), -1);
        Check.same("it is refused once", x.count(11), 4);
        Check.same("what is SEEN stays", x.fits(0) * 100 + x.fits(1), 105);
        Check.noSuch("no such ISLE", () -> x.see(2, 0, 61));
        Check.noSuch("no such HOUR", () -> x.see(0, 168, 61));
        Check.same("they are not counted", x.count(11), 4);
        Check.same("it is no ACT", x.count(5) + x.count(10), 0);
        Check.same("nor UNDONE as one", x.undo(), -1);
    }

    /** "let out one rope, by 1 to 9 yards": not by 0, not by 10. */
    private static void yardsLetOut() {
        for (int isle = 0; isle < 3; isle++) {
            for (int yards = -1; yards <= 11; yards++) {
                TetherSky x = isles(3);
                x.see(isle, 0, 20 + isle + yards);
                boolean own = yards >= 1 && yards <= 9;
                // by 0 yards each other rope can have been it
                Check.same("how many by " + yards, x.fits(0), yards == 0 ? 18 : own ? 1 : 0);
                int first = own ? 10 * isle + yards : yards == 0 ? isle == 0 ? 11 : 1 : -1;
                Check.same("the first by " + yards, x.fits(1), first);
                Check.same("no rope is let out", x.isle(isle, 3), 20 + isle);
            }
        }
        TetherSky one = isles(1);
        one.see(0, 0, 20);
        Check.same("one alone, as it is", one.fits(0), 0);
        Check.same("NONE: none", one.fits(1), -1);
        TetherSky none = isles(0);
        Check.same("no ISLES", none.fits(0), 0);
        Check.same("NONE: none", none.fits(1), -1);
    }

    /** "(so that it isn't above 60)" */
    private static void notAboveSixty() {
        for (int rope = 49; rope <= 60; rope++) {
            TetherSky x = isles(1);
            x.winch(0, rope);
            int most = Math.min(9, 60 - rope);
            Check.same("how many from " + rope, x.fits(0), most);
            Check.same("the first from " + rope, x.fits(1), most == 0 ? -1 : 1);
            x.see(0, 0, 60);
            Check.same("60 from " + rope, x.fits(0), rope >= 51 && rope <= 59 ? 1 : 0);
            Check.same("its yards", x.fits(1), rope >= 51 && rope <= 59 ? 60 - rope : -1);
        }
    }

    /** "the first (10 by the ISLE and yards)" */
    private static void firstThatFits() {
        TetherSky x = isles(6);
        Check.same("nothing is SEEN", x.fits(0), 54);
        Check.same("the first of all", x.fits(1), 1);
        for (int isle = 0; isle < 6; isle++) {
            TetherSky y = isles(6);
            for (int i = 0; i < isle; i++) {
                y.winch(i, 60);
            }
            Check.same("behind those of 60", y.fits(1), 10 * isle + 1);
            Check.same("how many", y.fits(0), 9 * (6 - isle));
            y.see(isle, 0, 29 + isle);
            Check.same("by 9", y.fits(1), 10 * isle + 9);
        }
        TetherSky posts = Check.under("isle 1 1 9 1 1 9 0 0;isle 9 1 9 9 1 0 0 0;");
        posts.see(1, 0, 15);
        Check.same("ISLE 1 by 6", posts.fits(0) * 100 + posts.fits(1), 116);
        posts.see(0, 0, 0);
        Check.same("ISLE 0 stays on its POST", posts.fits(0) * 100 + posts.fits(1), 116);
        posts.see(0, 0, 1);
        Check.same("it isn't 1 high", posts.fits(0), 0);
        TetherSky both = Check.under("isle 1 1 9 1 1 9 0 0;isle 9 1 9 9 1 0 0 0;");
        both.see(0, 0, 0);
        both.see(1, 0, 9);
        Check.same("by ISLE 0 nothing changes", both.fits(0) * 100 + both.fits(1), 901);
    }

    /** "by which all SEEN is so": the first, the last and each between. */
    private static void allThatIsSeen() {
        for (int wrong = 0; wrong < 12; wrong++) {
            TetherSky x = isles(2);
            for (int i = 0; i < 12; i++) {
                x.see(i % 2, i, i % 2 == 0 ? 23 : i == wrong ? 22 : 21);
            }
            Check.same("one is not so", x.fits(0), wrong % 2 == 0 ? 1 : 0);
            Check.same("the first", x.fits(1), wrong % 2 == 0 ? 3 : -1);
        }
    }

    /** "how high an ISLE was in an HOUR" */
    private static void seenInItsHour() {
        String text = "isle 10 10 10 50 1 0 0 0;wind 5 9 0;wind 6 0 0;wind 167 0 9;gusts 0 1 1 1;";
        for (int hour : new int[] {0, 4, 5, 6, 166, 167}) {
            boolean blown = hour == 5 || hour == 167;
            TetherSky x = Check.under(text);
            x.see(0, hour, 8);
            Check.same("16 by half", x.fits(0), blown ? 2 : 0);
            Check.same("15 less 7, 16 less 8", x.fits(1), blown ? 5 : -1);
            TetherSky y = Check.under(text);
            y.see(0, hour, 16);
            Check.same("16 without wind", y.fits(1), blown ? -1 : 6);
        }
        TetherSky ruled = Check.under("isle 10 10 10 50 1 0 0 0;wind 0 9 0;push (rope=13)*100;");
        ruled.see(0, 0, 0);
        Check.same("the rule's rope is the one let out", ruled.fits(0) * 100 + ruled.fits(1), 103);
    }

    /** A rope with as many KNOTS as yards, or more, let out. */
    private static void lettingOutFloats() {
        TetherSky x = Check.under("isle 10 10 2 50 1 0 0 0;");
        for (int i = 0; i < 4; i++) {
            x.knot(0, true);
        }
        x.see(0, 0, 0);
        Check.same("by 1 and 2 it stays down", x.fits(0) * 100 + x.fits(1), 201);
        TetherSky y = Check.under("isle 10 10 2 50 1 0 0 0;");
        for (int i = 0; i < 4; i++) {
            y.knot(0, true);
        }
        y.see(0, 0, 1);
        Check.same("by 3 it is 1 high", y.fits(0) * 100 + y.fits(1), 103);
    }

    private static void fitsByActs() {
        TetherSky x = isles(2);
        x.see(0, 0, 25);
        Check.same("as told", x.fits(1), 5);
        x.knot(0, true);
        Check.same("a KNOT more", x.fits(1), 6);
        x.winch(0, 23);
        Check.same("a longer ROPE", x.fits(1), 3);
        x.load(0, 60);
        Check.same("too heavy", x.fits(1), -1);
        x.undo();
        Check.same("UNDONE", x.fits(1), 3);
    }

    // ---- what is weighed ----

    /** "what LOADS (0 to 60) it can have, all else as it is: how many, the least"; "NONE: none" */
    private static void loadsWeighed() {
        for (int lift = 1; lift <= 63; lift++) {
            TetherSky x = Check.under("isle 30 30 9 9 1 9 9 9;isle 10 10 20 " + lift + " 1 0 7 0;");
            int floating = Math.min(lift, 61);
            Check.same("floating, how many", x.weighed(1, 0, 20, 0), floating);
            Check.same("floating, the least", x.weighed(1, 0, 20, 1), 0);
            Check.same("on its POST, how many", x.weighed(1, 0, 0, 0), 61 - floating);
            Check.same("on its POST, the least", x.weighed(1, 0, 0, 1), floating == 61 ? -1 : floating);
            Check.same("19 high", x.weighed(1, 0, 19, 0), 0);
            Check.same("21 high", x.weighed(1, 0, 21, 1), -1);
            Check.same("the LOAD stays", x.isle(1, 7), 7);
        }
        TetherSky heavy = Check.under("hill 10 10 20 20 1 20 0 0;");
        Check.same("too heavy without a LOAD", heavy.weighed(0, 0, 0, 0), 61);
        Check.same("the least", heavy.weighed(0, 0, 0, 1), 0);
        Check.same("none", heavy.weighed(0, 0, 20, 1), -1);
        int[] other = {-1, 61, Integer.MIN_VALUE, Integer.MAX_VALUE};
        for (int high : other) {
            Check.same("none so high", heavy.weighed(0, 0, high, 0), 0);
            Check.same("NONE so high", heavy.weighed(0, 0, high, 1), -1);
        }
        Check.same("nothing is refused", heavy.count(11), 0);
    }

    private static void loadsByTheRule() {
        TetherSky x = Check.under("hill 10 10 20 99 2 3 0 1;wind 7 9 0;push weight;");
        // 10 and its LOAD by 5 is how far it is blown down
        for (int high = 0; high <= 20; high++) {
            boolean some = high >= 6 && high <= 18;
            int due = !some ? 0 : high == 6 ? 1 : 5;
            Check.same("how many for " + high, x.weighed(0, 7, high, 0), due);
            Check.same("the least for " + high, x.weighed(0, 7, high, 1), some ? 5 * (20 - high) - 10 : -1);
            Check.same("ahead of the wind", x.weighed(0, 6, high, 0), high == 20 ? 61 : 0);
        }
    }

    private static void weighedByActs() {
        TetherSky x = Check.under("isle 10 10 20 50 2 0 0 9;isle 12 10 20 50 2 0 60 0;");
        Check.same("50 less 18", x.weighed(0, 0, 0, 1), 32);
        x.goat(0, 1, 0);
        Check.same("the other is on its POST: no goat", x.weighed(0, 0, 0, 1), 32);
        x.load(1, 0);
        x.goat(0, 1, 0);
        Check.same("a goat less", x.weighed(0, 0, 0, 1), 34);
        x.knot(0, true);
        Check.same("a KNOT", x.weighed(0, 0, 19, 0), 34);
        x.winch(0, 44);
        Check.same("a ROPE", x.weighed(0, 0, 43, 0), 34);
        Check.same("LOADS of the other", x.weighed(1, 0, 20, 0), 48);
        TetherSky gusty = Check.under("isle 10 10 20 50 2 0 0 0;wind 0 9 0;gusts 0 1 1 1;");
        Check.same("no gust blows", gusty.weighed(0, 0, 10, 0), 50);
    }
}
