/** The edges that the document's words on ACTS and the IMAGE name (promises 11 to 16, 37 and 38): a sentence ahead of each. */
public final class ActEdgeTest {
    private static final String TWO = "isle 10 10 20 99 2 6 4 1;reef 12 10 20 99 2 7 9 8;";

    public static void main(String[] args) {
        winches();
        knots();
        loads();
        goatsThereAre();
        nineGoats();
        bridgeInThatHour();
        goatsByReach();
        walks();
        walksOfAll();
        asItWas();
        fortyAreKept();
        refusedOnesDropNone();
        lastOneFirst();
        eachKindUndone();
        sixUndone();
        undoIsNoAct();
        noneToUndo();
        imageOfEach();
        imageOfSixIsles();
        imageOfActs();
        imageOfCrossings();
        imageOfSights();
        imageOfStatus();
        notInTheImage();
        imageInPlaceOfAnother();
        withoutImage();
        manyCalls();
        Check.finish();
    }

    private static void behind(String what, TetherSky x, int acts, int refusals) {
        Check.same("ACTS behind " + what, x.count(5), acts);
        Check.same("refusals behind " + what, x.count(10), refusals);
    }

    /** "the WINCH (ROPE becomes 1 to 60)"; "the ROPE as it was. NONE (STATUS 1): not 1 to 60" */
    private static void winches() {
        for (int rope = -2; rope <= 63; rope++) {
            TetherSky x = Check.under(TWO);
            boolean good = rope >= 1 && rope <= 60;
            Check.same("winch to " + rope, x.winch(1, rope), good ? 20 : -1);
            Check.same("ROPE", x.isle(1, 3), good ? rope : 20);
            Check.same("the other's ROPE", x.isle(0, 3), 20);
            behind("a winch to " + rope, x, good ? 1 : 0, good ? 0 : 1);
            Check.same("then", x.winch(1, 5), good ? rope : 20);
        }
    }

    /** "a KNOT more, or one less (0 to 60)"; "how many there are. NONE (STATUS 1): not 0 to 60 then" */
    private static void knots() {
        TetherSky x = Check.under(TWO);
        Check.same("one less than none", x.knot(1, false), -1);
        Check.same("none", x.isle(1, 9), 0);
        behind("that", x, 0, 1);
        for (int knots = 1; knots <= 60; knots++) {
            Check.same("one more", x.knot(1, true), knots);
            Check.same("KNOTS", x.isle(1, 9), knots);
        }
        behind("60 knots", x, 40, 1);
        Check.same("the 61st", x.knot(1, true), -1);
        Check.same("60", x.isle(1, 9), 60);
        Check.same("the other's", x.isle(0, 9), 0);
        behind("the 61st", x, 40, 2);
        for (int knots = 59; knots >= 0; knots--) {
            Check.same("one less", x.knot(1, false), knots);
        }
        Check.same("one less than none", x.knot(1, false), -1);
        behind("all", x, 40, 3);
    }

    /** "LOAD becomes another (0 to 60)"; "as it was. NONE (STATUS 1): not 0 to 60" */
    private static void loads() {
        for (int load = -2; load <= 63; load++) {
            TetherSky x = Check.under(TWO);
            boolean good = load >= 0 && load <= 60;
            Check.same("load " + load, x.load(1, load), good ? 9 : -1);
            Check.same("LOAD", x.isle(1, 7), good ? load : 9);
            Check.same("THE WEIGHT", x.isle(1, 10), 7 + 16 + (good ? load : 9));
            Check.same("the other's LOAD", x.isle(0, 7), 4);
            behind("a load of " + load, x, good ? 1 : 0, good ? 0 : 1);
            Check.same("then", x.load(1, 5), good ? load : 9);
        }
    }

    private static int goats(TetherSky x) {
        return 10 * x.isle(0, 8) + x.isle(1, 8);
    }

    /** "False (STATUS 1): ... there is no GOAT" */
    private static void goatsThereAre() {
        TetherSky x = Check.under(TWO);
        Check.same("the last one", x.goat(0, 1, 0), true);
        Check.same("goats", goats(x), 9);
        behind("the last one", x, 1, 0);
        x.goat(1, 0, 0);
        x.goat(0, 1, 0);
        x.goat(1, 0, 0);
        x.goat(1, 0, 0);
        Check.same("goats", goats(x), 27);
        TetherSky came = Check.under("isle 10 10 20 99 2 0 0 0;isle 12 10 20 99 2 0 0 1;");
        Check.same("none yet", came.goat(0, 1, 0), false);
        Check.same("it comes", came.goat(1, 0, 0), true);
        Check.same("it goes back", came.goat(0, 1, 0), true);
        Check.same("none again", came.goat(0, 1, 0), false);
        behind("these", came, 2, 2);
        TetherSky none = Check.under("isle 10 10 20 99 2 0 0 0;isle 12 10 20 99 2 0 0 0;");
        Check.same("there is none", none.goat(0, 1, 0), false);
        Check.same("goats", goats(none), 0);
        behind("none", none, 0, 1);
    }

    /** "the other one has 9" */
    private static void nineGoats() {
        TetherSky x = Check.under(TWO.replace("4 1;", "4 2;"));
        Check.same("it has 8", x.goat(0, 1, 0), true);
        Check.same("goats", goats(x), 19);
        Check.same("it has 9", x.goat(0, 1, 0), false);
        Check.same("goats", goats(x), 19);
        behind("that", x, 1, 1);
        Check.same("from nine", x.goat(1, 0, 0), true);
        Check.same("goats", goats(x), 28);
        Check.same("it has 8 again", x.goat(0, 1, 0), true);
        TetherSky all = Check.under("isle 10 10 20 99 2 0 0 9;isle 12 10 20 99 2 0 0 0;");
        for (int there = 1; there <= 9; there++) {
            Check.same("one after another", all.goat(0, 1, 0), true);
            Check.same("goats", goats(all), 10 * (9 - there) + there);
        }
        Check.same("there is none left", all.goat(0, 1, 0), false);
        Check.same("to itself", all.goat(1, 1, 0), false);
        behind("both", all, 9, 2);
    }

    /** "if in that HOUR both are near enough for a BRIDGE" */
    private static void bridgeInThatHour() {
        String winds = "wind 5 9 0;wind 6 0 0;";
        TetherSky x = Check.under("isle 10 10 9 50 1 0 0 9;isle 12 10 9 50 2 0 0 0;push (size=2)*100;" + winds);
        for (int hour = 0; hour < 9; hour++) {
            Check.same("near but in 5", x.goat(0, 1, hour), hour != 5);
        }
        Check.same("the last hour", x.goat(0, 1, 167), true);
        behind("these", x, 9, 1);
        TetherSky y = Check.under("isle 10 10 9 50 1 0 0 9;isle 19 10 9 1 2 1 0 0;push 100;" + winds);
        for (int hour = 0; hour < 9; hour++) {
            Check.same("near in 5 alone", y.goat(0, 1, hour), hour == 5);
        }
        TetherSky falls = Check.under("isle 10 10 9 3 1 0 0 0;isle 12 10 9 50 2 0 0 9;");
        Check.same("a goat", falls.goat(1, 0, 0), true);
        Check.same("it floats still", falls.isle(0, 11), 1);
        Check.same("another goat", falls.goat(1, 0, 0), true);
        Check.same("it is on its POST", falls.isle(0, 11), 0);
        Check.same("so there is no BRIDGE", falls.goat(1, 0, 0), false);
        TetherSky knotted = Check.under("isle 10 10 9 50 1 0 0 9;isle 12 10 9 50 2 0 0 0;");
        knotted.knot(0, true);
        knotted.knot(0, true);
        Check.same("2 apart", knotted.goat(0, 1, 0), true);
        knotted.knot(0, true);
        Check.same("3 apart", knotted.goat(0, 1, 0), false);
    }

    private static void goatsByReach() {
        for (int reach = 0; reach <= 20; reach++) {
            for (int more = 0; more <= 1; more++) {
                String far = "isle 10 10 9 50 1 0 0 9;isle " + (13 + reach + more) + " 10 9 50 2 0 0 0;reach " + reach + ";";
                Check.same("by " + far, Check.under(far).goat(0, 1, 0), more == 0);
                String high = "isle 10 10 9 50 1 0 0 9;isle 11 10 " + (9 + reach + more) + " 50 2 0 0 0;reach " + reach + ";";
                Check.same("by " + high, Check.under(high).goat(0, 1, 0), more == 0);
            }
        }
        TetherSky gusty = Check.under("isle 10 10 9 50 1 0 0 9;isle 12 10 9 1 2 1 0 0;push 80;wind 0 9 0;gusts 0 1 1 1;");
        Check.same("near without a gust", gusty.goat(0, 1, 0), true);
        TetherSky full = Check.under("isle 10 10 9 50 1 0 0 9;isle 24 10 9 1 2 1 0 0;push 80;wind 0 9 0;gusts 0 1 1 1;");
        Check.same("too far without a gust", full.goat(0, 1, 0), false);
        Check.same("the other way", Check.under("isle 24 10 9 1 2 1 0 9;isle 10 10 9 50 1 0 0 0;push 80;wind 0 9 0;"
                + "gusts 0 1 1 1;").goat(0, 1, 0), false);
    }

    private static int sides(TetherSky x, int isle) {
        return 1000 * x.isle(isle, 12) + 100 * x.isle(isle, 13) + 10 * x.isle(isle, 14) + x.isle(isle, 15);
    }

    /** "how many are on that SIDE then. NONE (STATUS 1): ... so many are not there, it is below 1": 2 2 2 1 there. */
    private static void walks() {
        for (int from = 0; from < 4; from++) {
            for (int to = 0; to < 4; to++) {
                for (int people = -1; people <= 4; people++) {
                    TetherSky x = Check.under(TWO);
                    int[] row = {2, 2, 2, 1};
                    boolean good = from != to && people >= 1 && people <= row[from];
                    if (good) {
                        row[from] -= people;
                        row[to] += people;
                    }
                    Check.same("walk " + from + " " + to + " " + people, x.walk(1, from, to, people), good ? row[to] : -1);
                    Check.same("sides", sides(x, 1), 1000 * row[0] + 100 * row[1] + 10 * row[2] + row[3]);
                    Check.same("sides of the other", sides(x, 0), 2211);
                    Check.same("PEOPLE", x.isle(1, 6), 7);
                    behind("it", x, good ? 1 : 0, good ? 0 : 1);
                }
            }
        }
    }

    private static void walksOfAll() {
        TetherSky x = Check.under("isle 9 9 9 9 1 20 0 0;");
        Check.same("all of the north", x.walk(0, 0, 3, 5), 10);
        Check.same("nobody is there", x.walk(0, 0, 3, 1), -1);
        Check.same("all of the east", x.walk(0, 1, 3, 5), 15);
        Check.same("all of the south", x.walk(0, 2, 3, 5), 20);
        Check.same("all 20", x.walk(0, 3, 0, 20), 20);
        Check.same("21", x.walk(0, 0, 3, 21), -1);
        for (int side = -1; side <= 4; side += 5) {
            Check.same("from no SIDE", x.walk(0, side, 0, 1), -1);
            Check.same("to no SIDE", x.walk(0, 0, side, 1), -1);
        }
        behind("these", x, 4, 6);
        TetherSky nobody = Check.under("isle 9 9 9 9 1 0 0 0;");
        Check.same("nobody", nobody.walk(0, 0, 1, 1), -1);
        Check.same("no one at all", nobody.walk(0, 0, 1, 0), -1);
    }

    // ---- acts that are kept ----

    /** "what its call doesn't refuse is one, also where all is as it was" */
    private static void asItWas() {
        TetherSky x = Check.under(TWO);
        Check.same("the same ROPE", x.winch(0, 20), 20);
        behind("it", x, 1, 0);
        Check.same("the same LOAD", x.load(0, 4), 4);
        behind("it", x, 2, 0);
        Check.same("undo", x.undo(), 1);
        Check.same("undo", x.undo(), 0);
        Check.same("nothing changed", x.isle(0, 3) * 10 + x.isle(0, 7), 204);
        x.winch(0, 30);
        x.winch(0, 30);
        Check.same("undo the second", x.undo(), 1);
        Check.same("ROPE", x.isle(0, 3), 30);
        Check.same("undo the first", x.undo(), 0);
        Check.same("ROPE", x.isle(0, 3), 20);
    }

    private static void act(TetherSky x, int i) {
        int isle = i / 5 % 2;
        switch (i % 5) {
            case 0: x.winch(isle, i + 5); break;
            case 1: x.load(isle, i); break;
            case 2: x.knot(isle, true); break;
            case 3: x.goat(isle, 1 - isle, 0); break;
            default: oneWalksOn(x, isle); break;
        }
    }

    private static void oneWalksOn(TetherSky x, int isle) {
        int side = 0;
        while (x.isle(isle, 12 + side) == 0) {
            side++;
        }
        x.walk(isle, side, (side + 1) % 4, 1);
    }

    private static long all(TetherSky x) {
        long all = 0;
        for (int isle = 0; isle < 2; isle++) {
            all = all * 100 + x.isle(isle, 3);
            all = all * 100 + x.isle(isle, 7);
            all = all * 10 + x.isle(isle, 8);
            all = all * 10 + x.isle(isle, 9);
        }
        return all * 100 + sides(x, 0) * 31L + sides(x, 1);
    }

    private static TetherSky acted(int acts) {
        TetherSky x = Check.under(TWO + "reach 20;");
        for (int i = 0; i < acts; i++) {
            act(x, i);
            Check.same("ACTS that are kept", x.count(5), Math.min(i + 1, 40));
        }
        Check.same("none was refused", x.count(10), 0);
        return x;
    }

    /** "ACTS (at most 40 are kept, the latest ones ...)": of 0 to 43 of all kinds the latest ones UNDONE, to the last. */
    private static void fortyAreKept() {
        for (int acts : new int[] {0, 1, 7, 39, 40, 41, 43}) {
            int kept = Math.min(acts, 40);
            for (int left = 0; left <= kept; left += left < 3 || left > kept - 3 ? 1 : 5) {
                TetherSky x = acted(acts);
                for (int i = kept - 1; i >= left; i--) {
                    Check.same("how many are left", x.undo(), i);
                }
                Check.same("ACTS left", x.count(5), left);
                Check.same("as it was ahead of them", all(x), all(acted(acts - kept + left)));
                Check.same("then", x.undo(), left - 1);
                Check.same("what is not kept stays", all(x), all(acted(acts - kept + Math.max(left - 1, 0))));
            }
        }
    }

    /** A refused call is no ACT, so none goes for it. */
    private static void refusedOnesDropNone() {
        TetherSky x = Check.under(TWO);
        for (int i = 1; i <= 40; i++) {
            x.load(0, i);
        }
        x.load(0, 61);
        x.winch(0, 0);
        x.knot(0, false);
        x.goat(0, 0, 0);
        x.walk(0, 0, 0, 1);
        behind("five refusals", x, 40, 5);
        for (int left = 39; left >= 0; left--) {
            Check.same("undo", x.undo(), left);
        }
        Check.same("LOAD as at first", x.isle(0, 7), 4);
    }

    /** "They are UNDONE, the last one first." */
    private static void lastOneFirst() {
        TetherSky x = Check.under(TWO);
        x.winch(0, 21);
        x.winch(1, 31);
        x.winch(0, 22);
        x.winch(1, 32);
        int[] first = {22, 21, 21, 20};
        int[] second = {31, 31, 20, 20};
        for (int i = 0; i < 4; i++) {
            Check.same("undo", x.undo(), 3 - i);
            Check.same("ROPE 0", x.isle(0, 3), first[i]);
            Check.same("ROPE 1", x.isle(1, 3), second[i]);
        }
        x.winch(0, 5);
        x.undo();
        x.load(0, 5);
        Check.same("an ACT behind one that is UNDONE", x.undo(), 0);
        Check.same("LOAD", x.isle(0, 7), 4);
    }

    private static void eachKindUndone() {
        String reef = "isle 30 30 9 9 1 3 0 0;" + TWO;
        TetherSky x = Check.under(reef);
        long[] due = Whole.of(Check.under(reef));
        x.winch(2, 60);
        x.undo();
        x.knot(2, true);
        x.undo();
        x.load(2, 60);
        x.undo();
        x.goat(2, 1, 0);
        x.undo();
        x.goat(1, 2, 0);
        x.undo();
        x.walk(2, 0, 3, 2);
        x.undo();
        x.knot(1, true);
        x.knot(1, false);
        x.undo();
        Check.same("a KNOT less is UNDONE", x.isle(1, 9), 1);
        x.undo();
        Check.sameRow("each kind is UNDONE", Whole.of(x), due);
    }

    /** Each of six ISLES throws a GOAT to each other one, and has it again. */
    private static void sixUndone() {
        StringBuilder text = new StringBuilder();
        for (int isle = 0; isle < 6; isle++) {
            text.append("isle ").append(2 * isle).append(" 1 9 50 6 8 ").append(isle).append(" 5;");
        }
        for (int from = 0; from < 6; from++) {
            TetherSky x = Check.under(text.toString());
            x.walk(from, 3, 0, 2);
            for (int to = 0; to < 6; to++) {
                Check.same(from + " to " + to, x.goat(from, to, 0), from != to);
                Check.same("undo", x.undo(), from != to ? 1 : 0);
                if (from == to) {
                    x.walk(from, 3, 0, 2);
                }
                for (int isle = 0; isle < 6; isle++) {
                    Check.same("GOATS of " + isle, x.isle(isle, 8), 5);
                    Check.same("SIDES of " + isle, sides(x, isle), isle == from ? 4220 : 2222);
                }
            }
        }
    }

    private static void undoIsNoAct() {
        TetherSky x = Check.under(TWO);
        x.winch(0, 5);
        x.winch(0, 6);
        Check.same("undo", x.undo(), 1);
        Check.same("undo again", x.undo(), 0);
        Check.same("ROPE", x.isle(0, 3), 20);
        behind("both", x, 0, 0);
        x.cross(0, true);
        Check.same("a CROSSING is no ACT", x.undo(), -1);
        x.see(0, 0, 5);
        Check.same("nor what is SEEN", x.undo(), -1);
        Check.same("the CROSSING stays", x.count(6) * 10 + x.count(7), 11);
    }

    /** "NONE: there is none." */
    private static void noneToUndo() {
        TetherSky x = Check.under(TWO);
        long[] due = Whole.of(Check.under(TWO));
        Check.same("none", x.undo(), -1);
        Check.same("none", x.undo(), -1);
        Check.sameRow("nothing changes, no refusal is counted", Whole.of(x), due);
    }

    // ---- the image ----

    private static TetherSky some() {
        TetherSky x = Check.under(TWO);
        x.winch(0, 21);
        x.knot(1, true);
        x.load(0, 5);
        x.goat(0, 1, 0);
        x.walk(1, 0, 3, 2);
        x.cross(0, true);
        x.see(1, 5, 19);
        x.winch(0, 0);
        return x;
    }

    /** "AN IMAGE keeps ROPES, KNOTS, LOADS, GOATS, PEOPLE ..." */
    private static void imageOfEach() {
        for (int change = 0; change < 9; change++) {
            TetherSky x = some();
            TetherSky due = some();
            x.image();
            due.image();
            switch (change) {
                case 0: x.winch(1, 33); break;
                case 1: x.knot(0, true); break;
                case 2: x.load(1, 33); break;
                case 3: x.goat(1, 0, 0); break;
                case 4: x.walk(0, 0, 1, 1); break;
                case 5: x.undo(); break;
                case 6: x.uncross(); break;
                case 7: x.see(0, 0, 0); break;
                default: x.cross(0, false); break;
            }
            Check.same("restore", x.restore(), true);
            Check.sameRow("as the IMAGE again behind change " + change, Whole.of(x), Whole.of(due));
        }
    }

    private static void imageOfSixIsles() {
        StringBuilder text = new StringBuilder();
        for (int isle = 0; isle < 6; isle++) {
            text.append("isle ").append(2 * isle).append(" 1 9 50 1 ").append(3 * isle).append(' ').append(isle).append(" 5;");
        }
        TetherSky x = Check.under(text.toString());
        x.image();
        for (int isle = 0; isle < 6; isle++) {
            x.winch(isle, 20);
            x.knot(isle, true);
            x.load(isle, 44);
            x.walk(isle, 0, 3, 1);
        }
        for (int isle = 0; isle < 5; isle++) {
            x.goat(isle, isle + 1, 0);
        }
        Check.same("the last one's goats", x.isle(5, 8), 6);
        Check.same("restore", x.restore(), true);
        for (int isle = 0; isle < 6; isle++) {
            Check.same("ROPE of " + isle, x.isle(isle, 3), 9);
            Check.same("LOAD of " + isle, x.isle(isle, 7), isle);
            Check.same("GOATS of " + isle, x.isle(isle, 8), 5);
            Check.same("KNOTS of " + isle, x.isle(isle, 9), 0);
            Check.same("SIDES of " + isle, sides(x, isle), sides(Check.under(text.toString()), isle));
        }
    }

    /** "ACTS that are kept": they can be UNDONE as they could then, though others stood in their place. */
    private static void imageOfActs() {
        TetherSky x = Check.under(TWO);
        for (int i = 1; i <= 40; i++) {
            x.load(0, i);
        }
        x.image();
        for (int i = 0; i < 40; i++) {
            x.undo();
        }
        for (int i = 1; i <= 40; i++) {
            x.winch(1, i);
        }
        Check.same("restore", x.restore(), true);
        Check.same("ACTS", x.count(5), 40);
        Check.same("ROPE", x.isle(1, 3), 20);
        for (int left = 39; left >= 0; left--) {
            Check.same("undo", x.undo(), left);
            Check.same("LOAD", x.isle(0, 7), left == 0 ? 4 : left);
        }
        Check.same("ROPE", x.isle(1, 3), 20);
        Check.same("restore once more", x.restore(), true);
        Check.same("ACTS", x.count(5), 40);
        Check.same("LOAD", x.isle(0, 7), 40);
    }

    /** "CROSSINGS" */
    private static void imageOfCrossings() {
        TetherSky x = Check.under(TWO + "isle 1 1 9 9 1 0 0 0;");
        for (int i = 0; i < 40; i++) {
            x.cross(i % 2, i % 3 == 0);
        }
        int[] due = new int[40];
        int left = x.freed(-1);
        for (int i = 0; i < left; i++) {
            due[i] = x.freed(i);
        }
        x.image();
        for (int i = 0; i < 40; i++) {
            x.uncross();
        }
        for (int i = 0; i < 20; i++) {
            x.cross(1, true);
        }
        Check.same("restore", x.restore(), true);
        Check.same("CROSSINGS", x.count(6), 40);
        Check.same("left", x.freed(-1), left);
        for (int i = 0; i < left; i++) {
            Check.same("left " + i, x.freed(i), due[i]);
        }
        Check.same("full again", x.cross(0, true), -1);
        Check.same("uncross", x.uncross(), 39);
    }

    /** "what is SEEN" */
    private static void imageOfSights() {
        TetherSky x = Check.under(TWO);
        for (int i = 0; i < 11; i++) {
            x.see(1, i, 20);
        }
        Check.same("by ISLE 0 alone", x.fits(0), 9);
        x.image();
        Check.same("the 12th", x.see(0, 0, 0), 12);
        Check.same("nothing fits", x.fits(0), 0);
        Check.same("restore", x.restore(), true);
        Check.same("SEEN", x.count(7), 11);
        Check.same("all fits", x.fits(0), 9);
        Check.same("another 12th", x.see(0, 0, 25), 12);
        Check.same("5 yards fit", x.fits(0) * 100 + x.fits(1), 105);
    }

    /** "STATUS" */
    private static void imageOfStatus() {
        TetherSky x = Check.under(TWO);
        x.winch(0, 0);
        x.image();
        x.winch(0, 0);
        x.cross(5, true);
        Check.feed(x, "x");
        x.sky(1);
        Check.same("refused", x.count(9) * 100 + x.count(10) * 10 + x.count(11), 121);
        Check.same("restore", x.restore(), true);
        Check.same("as then", x.count(9) * 100 + x.count(10) * 10 + x.count(11), 10);
    }

    /** The tape, the FAULT's place and rows that are kept are none of what the IMAGE keeps. */
    private static void notInTheImage() {
        TetherSky x = Check.under(TWO);
        x.image();
        Check.same("rows", x.least(0, 0, 2, false), 2);
        Check.feed(x, "x");
        x.sky(1);
        Check.feed(x, "reach 3;");
        Check.same("restore", x.restore(), true);
        Check.same("the tape", x.count(8), 20);
        Check.same("the place", x.fault(), 0);
        Check.same("rows", x.rope(0) * 100 + x.rope(1), 1820);
        Check.same("the tape is read", x.sky(8), 0);
        Check.same("REACH", x.count(3), 3);
    }

    /** "AN IMAGE is kept, in place of another one." */
    private static void imageInPlaceOfAnother() {
        TetherSky x = Check.under(TWO);
        x.image();
        x.winch(0, 30);
        x.image();
        x.winch(0, 40);
        Check.same("restore", x.restore(), true);
        Check.same("the second one", x.isle(0, 3), 30);
        Check.same("with its ACT", x.count(5), 1);
        x.winch(0, 50);
        Check.same("restore", x.restore(), true);
        Check.same("the second one again", x.isle(0, 3), 30);
        x.undo();
        x.image();
        Check.same("the third one", x.restore(), true);
        Check.same("ROPE", x.isle(0, 3), 20);
        Check.same("no ACT", x.undo(), -1);
    }

    /** "False: there is none." */
    private static void withoutImage() {
        TetherSky x = some();
        Check.same("none", x.restore(), false);
        Check.sameRow("nothing changes", Whole.of(x), Whole.of(some()));
        TetherSky gone = some();
        gone.image();
        gone.sky(0);
        Check.same("gone by a text", gone.restore(), false);
        TetherSky stays = some();
        stays.image();
        Check.feed(stays, "x");
        stays.sky(1);
        Check.same("not by a FAULT", stays.restore(), true);
    }

    /** "An object is used for at most 512 calls after it has been made": the last of them answers as the first. */
    private static void manyCalls() {
        TetherSky x = new TetherSky();
        int calls = 0;
        while (calls < 500) {
            Check.feed(x, "isle 1 1 5 9 1 0 0 0;");
            Check.same("sky", x.sky(21), 0);
            Check.same("winch", x.winch(0, 1 + calls % 60), 5);
            Check.same("refused", x.winch(0, 0), -1);
            calls += 5;
        }
        Check.same("refusals", x.count(10), 100);
        for (int i = 0; i < 10; i++) {
            x.knot(0, true);
        }
        Check.same("the 512th", x.undo(), 10);
    }
}
