/** The edges that the document's words on SPANS name (==== 3., promises 17 to 23): a sentence ahead of each. */
public final class SpanEdgeTest {
    /** Isle 0 is blown on isle 1, which is on its POST, by a WIND of 9, and is far from it and high without. */
    private static final String BLOWN_ON = "isle 10 10 10 50 1 0 0 0;isle 20 10 9 1 1 1 0 0;push 100;";
    /** Isle 0 is on its POST; a WIND of 9 brings isle 1 over it, a WIND of -9 isle 2, both 10 high. */
    private static final String SHADED = "isle 30 30 9 1 1 1 0 0;isle 20 30 20 50 1 0 0 0;isle 40 30 20 50 1 0 0 0;";

    public static void main(String[] args) {
        knocksInSpans();
        firstPairs();
        shadesInSpans();
        shadeOfAny();
        wetMostOften();
        noneButTheIsles();
        noSeventh();
        turnsByHours();
        turnsInTheSouth();
        southNow();
        turnsByAct();
        hoursOfWinching();
        knocksInWinching();
        yardsOfWinching();
        ropesOfWinching();
        firstRows();
        islesOfWinching();
        winchedByActs();
        lightOfWinching();
        darkByAnyRope();
        lightByMany();
        rowsThatAreKept();
        wayAtOnce();
        wayByHours();
        wayToTheLastHour();
        noWayBehindTheWeek();
        fewestBridges();
        Check.finish();
    }

    // ---- promises 17 to 19 ----

    private static String from(int hour, int behind) {
        return "wind " + hour + " 9 0;" + (behind < 168 ? "wind " + behind + " 0 0;" : "");
    }

    /** "A SPAN are HOURS from one to another one (both of it; 0 to 167)"; "THE FIRST KNOCK"; "NONE: none" */
    private static void knocksInSpans() {
        for (int hour : new int[] {0, 1, 80, 166, 167}) {
            TetherSky x = Check.under(BLOWN_ON + from(hour, hour + 1));
            for (int first : new int[] {0, hour - 1, hour, hour + 1}) {
                for (int last : new int[] {hour - 1, hour, hour + 1, 167}) {
                    if (first >= 0 && last < 168 && first <= last) {
                        boolean in = first <= hour && hour <= last;
                        Check.same("the HOUR", x.knock(first, last, 0), in ? hour : -1);
                        Check.same("the ISLES", x.knock(first, last, 1), in ? 1 : -1);
                    }
                }
            }
        }
        TetherSky often = Check.under(BLOWN_ON + "wind 3 9 0;wind 5 0 0;wind 7 9 0;");
        int[] due = {3, 3, 3, 3, 4, 7, 7, 7, 8};
        for (int hour = 0; hour < due.length; hour++) {
            Check.same("the first of them from " + hour, often.knock(hour, 167, 0), due[hour]);
        }
        Check.same("one ISLE", Check.under("isle 1 1 9 9 1 0 0 0;").knock(0, 167, 0), -1);
        often.load(0, 60);
        Check.same("by its LOAD now", often.knock(0, 167, 0), -1);
        TetherSky calm = Check.under(BLOWN_ON.replace("100", "80") + "wind 3 9 0;gusts 0 1 1 1;");
        Check.same("no gust blows", calm.knock(0, 167, 0), -1);
    }

    /** "10 by the lesser and the greater ISLE (1; of like ones the first)" */
    private static void firstPairs() {
        int[] spotX = {1, 20, 40, 59, 1, 59};
        int[] spotY = {1, 20, 40, 1, 59, 59};
        for (int one = 0; one < 6; one++) {
            for (int two = one + 1; two < 6; two++) {
                StringBuilder text = new StringBuilder();
                for (int i = 0; i < 6; i++) {
                    int at = i == two ? one : i;
                    text.append("isle ").append(spotX[at] + (i == two ? 1 : 0)).append(' ').append(spotY[at]);
                    text.append(" 9 9 1 0 0 0;");
                }
                TetherSky x = Check.under(text.toString());
                Check.same("the ISLES", x.knock(5, 9, 1), 10 * one + two);
                Check.same("the HOUR", x.knock(5, 9, 0), 5);
            }
        }
        TetherSky x = Check.under("isle 1 1 9 9 1 0 0 0;isle 40 1 9 9 1 0 0 0;isle 41 1 9 9 1 0 0 0;isle 2 1 9 9 1 0 0 0;");
        Check.same("0 and 3 ahead of 1 and 2", x.knock(0, 0, 1), 3);
        x.winch(0, 20);
        Check.same("1 and 2 then", x.knock(0, 0, 1), 12);
        TetherSky y = Check.under("isle 1 1 9 9 1 0 0 0;isle 40 1 9 9 1 0 0 0;isle 2 1 9 9 1 0 0 0;isle 3 1 9 9 1 0 0 0;");
        Check.same("0 and 2 ahead of 0 and 3", y.knock(0, 0, 1), 2);
    }

    /** "how many HOURS an ISLE is in THE SHADE of any": of both ends of the SPAN, and between. */
    private static void shadesInSpans() {
        for (int first : new int[] {0, 5, 100, 165}) {
            for (int hours = 1; hours <= 3; hours++) {
                TetherSky x = Check.under(SHADED + from(first, first + hours));
                for (int from = Math.max(0, first - 2); from <= first + 3 && from < 168; from++) {
                    for (int to = from; to <= first + 4 && to < 168; to++) {
                        int due = Math.max(0, Math.min(to, first + hours - 1) - Math.max(from, first) + 1);
                        Check.same("HOURS " + from + " to " + to, x.shade(0, from, to), due);
                        Check.same("the higher one", x.shade(1, from, to), 0);
                        Check.same("RAIN", x.wet(0, from, to), due > 0 ? 1 : -1);
                        Check.same("a debt", x.debt(0, 1, from, to), due);
                        Check.same("who is owed most", x.rich(from, to), due > 0 ? 1 : -1);
                    }
                }
            }
        }
        TetherSky whole = Check.under("isle 10 10 10 50 1 0 0 0;isle 11 10 12 50 1 0 0 0;");
        Check.same("the week", whole.shade(0, 0, 167), 168);
        whole.winch(1, 11);
        Check.same("higher by 1", whole.shade(0, 0, 167), 0);
        TetherSky calm = Check.under("isle 30 30 9 1 1 1 0 0;isle 18 30 20 50 1 0 0 0;wind 0 9 0;gusts 0 1 1 1;");
        Check.same("a gust would bring it", calm.shade(0, 0, 167), 168);
        Check.same("no gust blows", Check.under("isle 30 30 9 1 1 1 0 0;isle 17 30 20 50 1 0 0 0;wind 0 9 0;gusts 0 1 1 1;")
                .shade(0, 0, 167), 0);
    }

    /** An HOUR counts once, though more than one are above. */
    private static void shadeOfAny() {
        TetherSky x = Check.under("isle 10 10 10 50 1 0 0 0;isle 11 10 12 50 1 0 0 0;isle 9 10 14 50 1 0 0 0;");
        Check.same("below two", x.shade(0, 0, 9), 10);
        Check.same("below one", x.shade(1, 0, 9), 10);
        Check.same("below none", x.shade(2, 0, 9), 0);
    }

    /** "from which one it has RAIN most often (of like ones the least); NONE: never" */
    private static void wetMostOften() {
        TetherSky x = Check.under(SHADED + "wind 5 9 0;wind 6 -9 0;wind 7 9 0;wind 8 -9 0;wind 10 0 0;");
        int[][] rows = {{0, 4, -1}, {0, 5, 1}, {5, 5, 1}, {6, 6, 2}, {5, 6, 1}, {6, 7, 1}, {5, 7, 1}, {6, 8, 2}, {5, 8, 1},
            {5, 9, 2}, {7, 9, 2}, {8, 9, 2}, {9, 9, 2}, {10, 10, -1}, {10, 167, -1}, {0, 167, 2}};
        for (int[] row : rows) {
            Check.same("HOURS " + row[0] + " to " + row[1], x.wet(0, row[0], row[1]), row[2]);
        }
        Check.same("it has none itself", x.wet(1, 0, 167), -1);
        Check.same("again", x.wet(0, 5, 5), 1);
        TetherSky both = Check.under("isle 10 10 10 50 1 0 0 0;isle 11 10 14 50 1 0 0 0;isle 9 10 12 50 1 0 0 0;");
        Check.same("the lowest", both.wet(0, 3, 9), 2);
        both.winch(2, 14);
        Check.same("of like ones the least", both.wet(0, 3, 9), 1);
        both.winch(1, 11);
        Check.same("by ropes now", both.wet(0, 3, 9), 2);
    }

    /** None but the ISLES of the text: not those of an earlier one, nor where ropes that were tried brought them. */
    private static void noneButTheIsles() {
        StringBuilder six = new StringBuilder();
        for (int i = 0; i < 6; i++) {
            six.append("isle ").append(10 + i).append(" 10 ").append(10 + 3 * (i / 2)).append(" 50 6 0 0 0;");
        }
        String[] fewer = {"isle 10 10 10 50 6 0 0 0;", "isle 10 10 1 1 6 1 0 0;", "isle 0 0 1 1 6 1 0 0;", "isle 0 0 1 9 6 0 0 0;"};
        for (String first : fewer) {
            for (int many = 1; many <= 4; many++) {
                StringBuilder text = new StringBuilder(first);
                for (int i = 1; i < many; i++) {
                    text.append("isle ").append(20 + 10 * i).append(" 50 30 50 1 0 0 0;");
                }
                alone(Check.under(text.toString()), many);
                TetherSky x = Check.under(six.toString());
                Check.same("six knock", x.knock(0, 0, 1), 1);
                Check.same("and are in THE SHADE", x.shade(0, 0, 0), 1);
                Check.feed(x, text.toString());
                Check.same("fewer", x.sky(text.length()), 0);
                alone(x, many);
                Check.same("ropes are tried", x.least(0, 0, 4, true), 0);
                alone(x, many);
            }
        }
    }

    private static void noSeventh() {
        StringBuilder text = new StringBuilder("isle 0 0 30 50 6 0 0 0;");
        for (int i = 1; i < 6; i++) {
            text.append("isle ").append(10 * i).append(" 50 30 50 1 0 0 0;");
        }
        TetherSky x = Check.under(text.toString());
        Check.same("nobody is owed anything", x.rich(0, 9), -1);
        Check.same("no debt", x.debt(5, 0, 0, 9), 0);
        Check.same("none KNOCK", x.knock(0, 9, 0), -1);
        Check.same("VIEW", x.view(0, 0, 0), 0);
        Check.same("no RAIN", x.rain(5, 0), -1);
    }

    private static void alone(TetherSky x, int many) {
        Check.same("ISLES", x.count(0), many);
        Check.same("none KNOCK", x.knock(0, 9, 0), -1);
        Check.same("no two", x.knock(0, 9, 1), -1);
        Check.same("none by a gust", x.gust(0, 0), 0);
        Check.same("nobody is owed anything", x.rich(0, 9), -1);
        Check.same("none in a WEEK", many == 1 ? x.week(7, -1) : 0, 0);
        for (int isle = 0; isle < many; isle++) {
            Check.same("no RAIN", x.rain(isle, 0), -1);
            Check.same("no SHADE", x.shade(isle, 0, 9), 0);
            Check.same("never", x.wet(isle, 0, 9), -1);
            Check.same("VIEW", x.view(isle, 0, 0), isle == 0 ? 0 : 1);
        }
        Check.same("the least winching", x.least(0, 9, 0, false), 0);
    }

    // ---- promise 20 ----

    /** Isle 1 is 1 south of isle 0 by its POST; a WIND along x brings it 8 west of it, or east of it. */
    private static String turning(int x, int y) {
        return "isle 30 30 20 50 1 0 0 0;isle " + x + " " + y + " 4 50 1 0 0 0;";
    }

    /** "from the second of it on: if the other one ... was west of it (its x less) in the HOUR ahead, and isn't now, or ..." */
    private static void turnsByHours() {
        TetherSky x = Check.under(turning(30, 31) + "wind 1 9 0;wind 2 -9 0;wind 3 0 0;wind 4 9 0;wind 5 0 0;wind 7 9 0;");
        // like, west, east, like, west, like, like, west ..: its x less alone is west
        int[] due = {0, 1, -1, 0, 1, -1, 0, 1, 0};
        for (int from = 0; from < due.length; from++) {
            int turns = 0;
            for (int to = from; to < due.length; to++) {
                turns += to > from ? due[to] : 0;
                Check.same("TURNS " + from + " to " + to, x.winds(0, 1, from, to), turns);
            }
        }
        Check.same("one HOUR", x.winds(0, 1, 167, 167), 0);
        Check.same("the last two", x.winds(0, 1, 166, 167), 0);
        TetherSky last = Check.under(turning(30, 31) + "wind 167 9 0;");
        Check.same("in the last", last.winds(0, 1, 166, 167), 1);
        Check.same("not ahead of it", last.winds(0, 1, 0, 166), 0);
        Check.same("in the week", last.winds(0, 1, 0, 167), 1);
    }

    /** "and is south of it now (its y more)"; "as seen from the first" */
    private static void turnsInTheSouth() {
        String winds = "wind 1 9 0;wind 2 -9 0;";
        for (int y = 28; y <= 32; y++) {
            TetherSky x = Check.under(turning(31, y) + winds);
            boolean south = y > 30;
            boolean north = y < 30;
            Check.same("first, by y " + y, x.winds(0, 1, 0, 1), south ? 1 : 0);
            Check.same("second, by y " + y, x.winds(0, 1, 1, 2), south ? -1 : 0);
            // as seen from isle 1, isle 0 is west of it at first, then not, then west again
            Check.same("the other way, first", x.winds(1, 0, 0, 1), north ? -1 : 0);
            Check.same("the other way, second", x.winds(1, 0, 1, 2), north ? 1 : 0);
        }
        Check.same("one yard less is west", Check.under(turning(29, 31) + "wind 1 -9 0;").winds(0, 1, 0, 1), -1);
        Check.same("no yard is not", Check.under(turning(30, 31) + "wind 1 -9 0;").winds(0, 1, 0, 1), 0);
    }

    /** South in the HOUR ahead counts for nothing. */
    private static void southNow() {
        TetherSky leaves = Check.under(turning(30, 31) + "wind 1 9 9;");
        Check.same("south no more", leaves.winds(0, 1, 0, 1), 0);
        TetherSky comes = Check.under(turning(30, 30).replace("isle 30 30 4", "isle 30 29 4") + "wind 1 9 -9;");
        Check.same("south now", comes.winds(0, 1, 0, 1), 1);
        TetherSky like = Check.under("isle 30 30 20 50 1 0 0 0;isle 30 38 4 50 1 0 0 0;wind 1 9 9;");
        Check.same("30 and 10, 38 and 2: a like y", like.where(0, 1, 1) - like.where(1, 1, 1), 0);
        Check.same("is not south", like.winds(0, 1, 0, 1), 0);
        TetherSky more = Check.under("isle 30 30 20 50 1 0 0 0;isle 30 39 4 50 1 0 0 0;wind 1 9 9;");
        Check.same("its y more by 1", more.winds(0, 1, 0, 1), 1);
    }

    private static void turnsByAct() {
        TetherSky x = Check.under(turning(31, 31) + "wind 1 9 0;");
        Check.same("by ropes as told", x.winds(0, 1, 0, 1), 1);
        x.winch(0, 4);
        Check.same("by a short rope", x.winds(0, 1, 0, 1), 0);
        x.undo();
        x.winch(1, 20);
        Check.same("by a long one of the other", x.winds(0, 1, 0, 1), 0);
        TetherSky gusty = Check.under("isle 30 30 9 50 1 0 0 0;isle 37 31 1 50 1 0 0 0;push 79;wind 1 9 0;gusts 0 1 1 1;");
        Check.same("37 alone, 38 by a gust", gusty.winds(0, 1, 0, 1), 0);
        TetherSky other = Check.under("isle 38 30 1 1 1 1 0 0;isle 29 31 9 50 1 0 0 0;push 99;wind 1 9 0;gusts 0 1 1 1;");
        Check.same("37 alone, 38 by a gust, of the other", other.winds(0, 1, 0, 1), 0);
    }

    // ---- promises 21 and 22 ----

    /** "in a SPAN of at most 24 HOURS"; each of them counts, the first and the last. */
    private static void hoursOfWinching() {
        for (int from : new int[] {0, 7, 144}) {
            for (int hour = from; hour <= from + 23; hour++) {
                TetherSky x = Check.under(BLOWN_ON + from(hour, hour + 1));
                Check.same("24 HOURS with " + hour, x.least(from, from + 23, 0, false), -1);
                if (hour > from) {
                    Check.same("ahead of it", x.least(from, hour - 1, 0, false), 0);
                }
                if (hour < from + 23) {
                    Check.same("behind it", x.least(hour + 1, from + 23, 0, false), 0);
                }
                Check.same("it alone", x.least(hour, hour, 0, false), -1);
            }
        }
        TetherSky x = Check.under(BLOWN_ON);
        Check.illegal("25 HOURS", () -> x.least(0, 24, 0, false));
        Check.illegal("the last 25", () -> x.least(143, 167, 0, true));
        Check.same("the last 24", x.least(144, 167, 0, true), 0);
        Check.illegal("24 beyond the week", () -> x.least(145, 168, 0, true));
    }

    /** "so that nothing KNOCKS in it": each two of four. */
    private static void knocksInWinching() {
        String[] posts = {"1 1", "20 20", "40 40", "59 60"};
        String[] near = {"2 1", "21 20", "41 40", "60 60"};
        for (int one = 0; one < 4; one++) {
            for (int two = one + 1; two < 4; two++) {
                StringBuilder text = new StringBuilder();
                for (int i = 0; i < 4; i++) {
                    text.append("isle ").append(i == two ? near[one] : posts[i]).append(" 9 9 1 0 0 0;");
                }
                TetherSky x = Check.under(text.toString());
                Check.same("two knock", x.least(3, 4, 0, false), -1);
                Check.same("two yards", x.least(3, 4, 2, false), 2);
                for (int i = 0; i < 4; i++) {
                    Check.same("ROPE " + i, x.rope(i), i == one ? 7 : 9);
                }
            }
        }
    }

    /** "longer or shorter by 0 to n yards (n 0 to 4 ...)": isle 0 is blown on isle 1 unless its ROPE is so many yards. */
    private static void yardsOfWinching() {
        for (int yards = -5; yards <= 5; yards++) {
            int rope = 10 + yards;
            String text = "isle 10 10 10 50 1 0 0 0;isle 20 10 9 1 6 1 0 0;wind 0 9 0;push 100*(1-(rope=" + rope + "));";
            for (int n = 0; n <= 4; n++) {
                TetherSky x = Check.under(text);
                boolean can = Math.abs(yards) <= n;
                Check.same("by " + n + " to " + rope, x.least(0, 3, n, false), can ? Math.abs(yards) : -1);
                if (can) {
                    Check.same("ROPE 0", x.rope(0), rope);
                    Check.same("ROPE 1", x.rope(1), 9);
                } else {
                    Check.noSuch("nothing is kept", () -> x.rope(0));
                }
                Check.same("the ROPE stays", x.isle(0, 3), 10);
            }
            TetherSky x = Check.under(text);
            Check.illegal("n -1", () -> x.least(0, 3, -1, false));
            Check.illegal("n 5", () -> x.least(0, 3, 5, false));
        }
    }

    /** "1 to 60 still" */
    private static void ropesOfWinching() {
        for (int rope : new int[] {1, 2, 59, 60}) {
            String text = "isle 10 10 " + rope + " 50 1 0 0 0;isle 11 10 " + rope + " 50 1 0 0 0;";
            boolean atEnd = rope == 1 || rope == 60;
            TetherSky x = Check.under(text);
            Check.same("by 1 at " + rope, x.least(0, 0, 1, false), atEnd ? -1 : 2);
            Check.same("by 2 at " + rope, x.least(0, 0, 2, false), 2);
            int[] due = rope == 1 ? new int[] {1, 3} : rope == 2 ? new int[] {1, 3} : rope == 59 ? new int[] {57, 59}
                    : new int[] {58, 60};
            Check.same("ROPE 0 at " + rope, x.rope(0), due[0]);
            Check.same("ROPE 1 at " + rope, x.rope(1), due[1]);
        }
        for (int rope : new int[] {1, 2, 3, 58, 59, 60}) {
            String end = " " + rope + " 50 1 0 0 0;";
            TetherSky four = Check.under("isle 10 10" + end + "isle 11 10" + end + "isle 10 11" + end + "isle 11 11" + end);
            Check.same("four by 4 at " + rope, four.least(0, 0, 4, false), rope == 3 || rope == 58 ? 8 : -1);
        }
        TetherSky near = Check.under("isle 10 10 4 50 1 0 0 0;isle 11 10 4 50 1 0 0 0;isle 11 11 4 50 1 0 0 0;");
        Check.same("2, 4, 6", near.least(0, 0, 4, false), 4);
        TetherSky low = Check.under("isle 10 10 1 50 1 0 0 0;isle 11 10 1 50 1 0 0 0;isle 11 11 1 50 1 0 0 0;");
        Check.same("1, 3, 5", low.least(0, 0, 4, false), 6);
        Check.same("the first row", low.rope(0) * 100 + low.rope(1) * 10 + low.rope(2), 135);
        Check.same("not by 3", low.least(0, 0, 3, false), -1);
        TetherSky high = Check.under("isle 10 10 60 50 1 0 0 0;isle 11 10 60 50 1 0 0 0;isle 11 11 60 50 1 0 0 0;");
        Check.same("56, 58, 60", high.least(0, 0, 4, false), 6);
        Check.same("the first row", high.rope(0) * 10000 + high.rope(1) * 100 + high.rope(2), 565860);
    }

    /** "the fewest yards together; of like ones the first as a row (ISLE 0 first, the shortest ROPE first)" */
    private static void firstRows() {
        TetherSky x = Check.under("isle 10 10 10 50 1 0 0 0;isle 11 10 10 50 1 0 0 0;isle 11 11 10 50 1 0 0 0;"
                + "isle 10 11 10 50 1 0 0 0;");
        Check.same("four by 2", x.least(0, 0, 2, false), -1);
        Check.same("four by 3", x.least(0, 0, 3, false), 8);
        Check.same("7, 9, 11, 13", row(x), 7091113);
        Check.same("four by 4", x.least(0, 0, 4, false), 8);
        Check.same("6, 8, 10, 12", row(x), 6081012);
        TetherSky one = Check.under("isle 10 10 11 50 1 0 0 0;isle 11 10 10 50 1 0 0 0;isle 30 10 10 50 1 0 0 0;"
                + "isle 31 10 10 50 1 0 0 0;");
        Check.same("1 and 2", one.least(0, 0, 4, false), 3);
        Check.same("the shortest of the first that can be", row(one), 11090810);
        TetherSky like = Check.under("isle 10 10 10 50 1 0 0 0;isle 40 10 10 50 1 0 0 0;isle 11 10 10 50 1 0 0 0;");
        Check.same("0 and 2", like.least(0, 0, 4, false), 2);
        Check.same("ROPE 0 the shortest", like.rope(0) * 10000 + like.rope(1) * 100 + like.rope(2), 81010);
    }

    private static long row(TetherSky x) {
        return x.rope(0) * 1000000L + x.rope(1) * 10000 + x.rope(2) * 100 + x.rope(3);
    }

    /** "at most 4 ISLES, else SPENT" */
    private static void islesOfWinching() {
        StringBuilder text = new StringBuilder();
        for (int isles = 0; isles <= 6; isles++) {
            TetherSky x = Check.under(text.toString());
            for (boolean light : new boolean[] {false, true}) {
                Check.same(isles + " ISLES", x.least(0, 23, 1, light), isles <= 4 ? 0 : -2);
            }
            for (int isle = 0; isle <= isles; isle++) {
                int i = isle;
                if (isle < isles && isles <= 4) {
                    Check.same("ROPE", x.rope(i), 9);
                } else {
                    Check.noSuch("no ROPE", () -> x.rope(i));
                }
            }
            text.append("isle ").append(10 * isles).append(" 1 9 9 1 0 0 0;");
        }
        TetherSky five = Check.under("isle 1 1 9 9 1 0 0 0;isle 2 1 9 9 1 0 0 0;isle 3 1 9 9 1 0 0 0;isle 4 1 9 9 1 0 0 0;"
                + "isle 5 1 9 9 1 0 0 0;");
        Check.same("SPENT, though all knocks", five.least(0, 0, 0, false), -2);
        Check.illegal("24 HOURS ahead of that", () -> five.least(0, 24, 0, false));
        Check.illegal("n ahead of that", () -> five.least(0, 0, 5, false));
        Check.illegal("the SPAN ahead of that", () -> five.least(1, 0, 0, false));
    }

    /** By ROPES, KNOTS and LOADS as they are now. */
    private static void winchedByActs() {
        TetherSky x = Check.under("isle 10 10 10 50 1 0 0 0;isle 11 10 10 50 1 0 0 0;");
        x.knot(0, true);
        Check.same("9 and 10 high", x.least(0, 0, 2, false), 1);
        Check.same("ROPES", x.rope(0) * 100 + x.rope(1), 910);
        x.knot(0, true);
        Check.same("8 and 10 high", x.least(0, 0, 2, false), 0);
        Check.same("ROPES", x.rope(0) * 100 + x.rope(1), 1010);
        x.load(0, 60);
        Check.same("0 and 10 high", x.least(0, 0, 2, false), 0);
        x.load(1, 60);
        Check.same("no yard helps", x.least(0, 0, 4, false), -1);
        x.undo();
        x.undo();
        x.winch(1, 30);
        Check.same("8 and 30 high", x.least(0, 0, 0, false), 0);
        Check.same("ROPES", x.rope(0) * 100 + x.rope(1), 1030);
        TetherSky gusty = Check.under(BLOWN_ON.replace("100", "80") + "wind 0 9 0;gusts 0 1 1 1;");
        Check.same("no gust blows", gusty.least(0, 3, 0, false), 0);
    }

    /** "so that no ISLE is in THE SHADE for more HOURS of it than LIGHT" */
    private static void lightOfWinching() {
        for (int light = 0; light <= 24; light++) {
            TetherSky x = Check.under("isle 10 10 10 50 1 0 0 0;isle 11 10 12 50 1 0 0 0;light " + light + ";");
            if (light > 0) {
                Check.same("so many HOURS", x.least(0, light - 1, 0, true), 0);
            }
            if (light < 24) {
                Check.same("one more", x.least(0, light, 0, true), -1);
                Check.same("one more, by a yard", x.least(0, light, 1, true), 1);
                Check.same("the first row", x.rope(0) * 100 + x.rope(1), 1011);
            }
            Check.same("24", x.least(3, 26, 0, true), light == 24 ? 0 : -1);
        }
        TetherSky without = Check.under("isle 10 10 10 50 1 0 0 0;isle 11 10 12 50 1 0 0 0;");
        Check.same("8 without", without.least(0, 7, 0, true), 0);
        Check.same("9", without.least(0, 8, 0, true), -1);
        TetherSky other = Check.under("isle 10 10 12 50 1 0 0 0;isle 11 10 10 50 1 0 0 0;light 0;");
        Check.same("the other one below", other.least(0, 0, 0, true), -1);
        Check.same("by a yard", other.least(0, 0, 4, true), 1);
        Check.same("the shortest ROPE first", other.rope(0) * 100 + other.rope(1), 1110);
        TetherSky knocking = Check.under("isle 10 10 10 50 1 0 0 0;isle 11 10 10 50 1 0 0 0;light 0;");
        Check.same("they may KNOCK", knocking.least(0, 23, 0, true), 0);
        Check.same("though else they may not", knocking.least(0, 23, 0, false), -1);
        TetherSky dark = Check.under("isle 10 10 10 50 1 0 0 0;isle 11 10 12 50 1 0 0 0;light 0;");
        Check.same("else THE SHADE counts for nothing", dark.least(0, 23, 0, false), 0);
    }

    /** Too far above: no ROPES of those that are tried help, whichever two of four they are. */
    private static void darkByAnyRope() {
        int[] spots = {10, 30, 50, 60};
        for (int low = 0; low < 4; low++) {
            for (int high = 0; high < 4; high++) {
                StringBuilder text = new StringBuilder("light 0;");
                for (int i = 0; i < 4; i++) {
                    int at = i == high ? spots[low] : spots[i];
                    text.append("isle ").append(at).append(i == high ? " 2 40" : " 1 10").append(" 50 1 0 0 0;");
                }
                TetherSky x = Check.under(text.toString());
                Check.same(low + " below " + high, x.least(0, 0, 4, true), low == high ? 0 : -1);
            }
        }
    }

    /** THE SHADE of any: HOURS below one and HOURS below another one count together, an HOUR below both once. */
    private static void lightByMany() {
        String winds = "wind 5 9 0;wind 7 -9 0;wind 9 0 0;";
        TetherSky x = Check.under(SHADED + winds + "light 3;");
        Check.same("2 and 2 HOURS", x.least(0, 20, 0, true), -1);
        Check.same("2 and 1", x.least(0, 7, 0, true), 0);
        Check.same("1 and 2", x.least(6, 20, 0, true), 0);
        TetherSky both = Check.under("isle 10 10 10 50 1 0 0 0;isle 11 10 12 50 1 0 0 0;isle 9 10 13 50 1 0 0 0;light 3;");
        Check.same("3 HOURS below both", both.least(0, 2, 0, true), 0);
        Check.same("4", both.least(0, 3, 0, true), -1);
        TetherSky each = Check.under("isle 10 10 10 50 1 0 0 0;isle 11 10 12 50 1 0 0 0;isle 40 40 10 50 1 0 0 0;"
                + "isle 41 40 12 50 1 0 0 0;light 3;");
        Check.same("3 HOURS of each of two", each.least(0, 2, 0, true), 0);
        Check.same("4", each.least(0, 3, 0, true), -1);
        Check.same("4, by a yard each", each.least(0, 3, 1, true), 2);
    }

    /** "NONE: none; -2: SPENT (in both what is kept stays)"; "The ROPE of an ISLE by what is kept." */
    private static void rowsThatAreKept() {
        TetherSky x = Check.under("isle 10 10 10 50 1 0 0 0;isle 11 10 10 50 1 0 0 0;");
        Check.noSuch("nothing is kept", () -> x.rope(0));
        Check.same("NONE", x.least(0, 0, 0, false), -1);
        Check.noSuch("nothing is kept", () -> x.rope(0));
        Check.noSuch("of the other", () -> x.rope(1));
        Check.same("two yards", x.least(0, 0, 2, false), 2);
        Check.same("kept", x.rope(0) * 100 + x.rope(1), 810);
        Check.same("NONE", x.least(0, 0, 1, false) - x.least(0, 0, 0, false), 3);
        Check.same("another row is kept", x.rope(0) * 100 + x.rope(1), 911);
        Check.same("NONE", x.least(0, 0, 0, false), -1);
        Check.same("it stays", x.rope(0) * 100 + x.rope(1), 911);
        Check.illegal("no SPAN", () -> x.least(1, 0, 4, false));
        Check.illegal("no n", () -> x.least(0, 0, 5, false));
        Check.same("it stays", x.rope(0) * 100 + x.rope(1), 911);
        x.winch(0, 40);
        x.undo();
        x.image();
        x.restore();
        Check.same("it stays", x.rope(0) * 100 + x.rope(1), 911);
        Check.feed(x, "x");
        x.sky(1);
        Check.same("it stays behind a FAULT", x.rope(0) * 100 + x.rope(1), 911);
        Check.same("FOR LIGHT", x.least(0, 0, 0, true), 0);
        Check.same("in place of it", x.rope(0) * 100 + x.rope(1), 1010);
        Check.noSuch("no such ISLE", () -> x.rope(2));
        Check.noSuch("no such ISLE", () -> x.rope(-1));
        x.sky(0);
        Check.noSuch("gone", () -> x.rope(0));
    }

    // ---- promise 23 ----

    /** "in each HOUR over BRIDGES there are then, over as many as one likes" */
    private static void wayAtOnce() {
        StringBuilder text = new StringBuilder();
        int[] order = {3, 0, 5, 1, 4, 2};
        for (int i = 0; i < 6; i++) {
            text.append("isle ").append(4 + 4 * order[i]).append(" 10 9 50 1 0 0 0;");
        }
        TetherSky x = Check.under(text.toString());
        for (int from = 0; from < 6; from++) {
            for (int to = 0; to < 6; to++) {
                Check.same("at once", x.way(from, to, 167, 0), 167);
                Check.same("over all between", x.way(from, to, 0, 1), Math.abs(order[from] - order[to]));
            }
        }
        TetherSky apart = Check.under("isle 4 10 9 50 1 0 0 0;isle 9 10 9 50 1 0 0 0;");
        Check.same("no BRIDGE", apart.way(0, 1, 0, 0), -1);
        Check.same("no BRIDGE", apart.way(0, 1, 0, 1), -1);
        Check.same("one stays", apart.way(1, 1, 167, 0), 167);
        Check.same("over none", apart.way(1, 1, 0, 1), 0);
        TetherSky gusty = Check.under(BLOWN_ON.replace("100", "70") + "wind 0 9 0;gusts 0 1 1 1;reach 2;");
        Check.same("no gust blows: 17 and 3 high", gusty.way(0, 1, 0, 0), -1);
    }

    /** "or one stays: the soonest HOUR ... in which one can be on an ISLE": isle 1 is blown on 0 in one HOUR, on 2 in another. */
    private static void wayByHours() {
        String isles = "isle 10 10 9 1 1 1 0 0;isle 20 10 10 50 1 0 0 0;isle 30 10 9 1 1 1 0 0;push 100;reach 0;";
        TetherSky x = Check.under(isles + "wind 5 -9 0;wind 6 0 0;wind 8 9 0;wind 9 0 0;");
        int[][] rows = {{0, 1, 0, 5, 1}, {0, 1, 5, 5, 1}, {0, 1, 6, -1, -1}, {1, 2, 0, 8, 1}, {1, 2, 8, 8, 1}, {1, 2, 9, -1, -1},
            {0, 2, 0, 8, 2}, {0, 2, 5, 8, 2}, {0, 2, 6, -1, -1}, {2, 0, 0, -1, -1}, {2, 1, 0, 8, 1}, {1, 0, 0, 5, 1}};
        for (int[] row : rows) {
            Check.same("HOUR", x.way(row[0], row[1], row[2], 0), row[3]);
            Check.same("BRIDGES", x.way(row[0], row[1], row[2], 1), row[4]);
        }
        x.load(1, 60);
        Check.same("on its POST now", x.way(0, 1, 0, 0), -1);
        TetherSky soon = Check.under("isle 10 10 9 50 1 0 0 0;isle 14 10 9 50 2 0 0 0;isle 19 10 9 50 1 0 0 0;"
                + "push (hour=1)*(size=1)*100;wind 1 9 0;");
        Check.same("over two at once", soon.way(0, 2, 0, 0), 0);
        Check.same("though by one later", soon.way(0, 2, 0, 1), 2);
    }

    /** "the soonest HOUR (to 167)" */
    private static void wayToTheLastHour() {
        for (int hour : new int[] {0, 1, 100, 166, 167}) {
            TetherSky x = Check.under(BLOWN_ON + from(hour, hour + 1));
            for (int start = Math.max(0, hour - 1); start <= Math.min(167, hour + 1); start++) {
                boolean can = start <= hour;
                Check.same("from " + start, x.way(0, 1, start, 0), can ? hour : -1);
                Check.same("back", x.way(1, 0, start, 1), can ? 1 : -1);
            }
        }
    }

    /** Nothing comes behind HOUR 167, though an HOUR 0 or a DAY 7 would. */
    private static void noWayBehindTheWeek() {
        TetherSky x = Check.under("isle 10 10 10 50 1 0 0 0;isle 20 10 9 1 1 1 0 0;wind 0 9 0;push (hour=0)*100;");
        Check.same("from 144", x.way(0, 1, 144, 0), 144);
        Check.same("from 145", x.way(0, 1, 145, 0), -1);
        Check.same("from 167", x.way(0, 1, 167, 1), -1);
        TetherSky y = Check.under("isle 10 10 10 50 1 0 0 0;isle 20 10 9 1 1 1 0 0;wind 0 9 0;push (day=7)*100;");
        Check.same("there is no DAY 7", y.way(0, 1, 0, 0), -1);
    }

    /** "the fewest BRIDGES by which one comes in that HOUR": 2 to isle 1 at first, but 1 an HOUR later. */
    private static void fewestBridges() {
        String isles = "isle 10 28 9 1 1 1 0 0;isle 22 10 18 50 1 0 0 0;isle 17 28 9 1 6 1 0 0;isle 42 28 9 1 1 1 0 0;"
                + "push 100;reach 0;";
        TetherSky x = Check.under(isles + "wind 0 1 9;wind 1 -5 9;wind 2 9 9;");
        Check.same("isle 1 at once", x.way(0, 1, 0, 0), 0);
        Check.same("over two", x.way(0, 1, 0, 1), 2);
        Check.same("an HOUR later", x.way(0, 1, 1, 1), 1);
        Check.same("isle 3", x.way(0, 3, 0, 0), 2);
        Check.same("over isle 1 as in HOUR 1", x.way(0, 3, 0, 1), 2);
        TetherSky first = Check.under(isles + "wind 0 1 9;wind 1 9 9;");
        Check.same("isle 3", first.way(0, 3, 0, 0), 1);
        Check.same("over isle 2 and 1", first.way(0, 3, 0, 1), 3);
        TetherSky worse = Check.under(isles + "wind 0 -5 9;wind 1 1 9;wind 2 9 9;");
        Check.same("over one at first, two later", worse.way(0, 3, 0, 1), 2);
    }
}
