import java.util.ArrayList;
import java.util.List;

/** The edges that the document's words on texts name (Terms, promises 1 to 5): a sentence of it stands ahead of each. */
public final class TextEdgeTest {
    private static final String[] NUMBER_NAMES = {"X", "Y", "ROPE", "LIFT", "SIZE", "PEOPLE", "LOAD", "GOATS"};
    private static final int[] LEAST = {0, 0, 1, 1, 1, 0, 0, 0};
    private static final int[] MOST = {60, 60, 60, 99, 6, 20, 60, 9};
    private static final String ALL_TOLD = "isle 1 1 5 9 1 0 0 0 ;isle 9 9 6 9 1 0 0 0;wind 3 1 1;wind 0 -9 7;church south;"
            + "gusts 0 1 2 3;reach 9;light 9;push 7;";
    private static final String ONE_TOLD = "hill 2 3 5 9 1 0 0 0;";
    private static final String CANON = "isle 1 2 3 4 5 6 7 8 ; hill 2 2 9 9 1 0 0 0 ; wind 5 1 - 2 ; wind 6 - 1 2 ; "
            + "church west ; gusts 1 0 2 3 ; reach 4 ; light 5 ; push ( 1 + lift * 2 ) < 7 or not day and 3 / hour = 1 ;";
    private static final String NESTED = "push not not not not not not lift * ( ( ( ( ( not not not not not not 1 ) ) ) ) ) "
            + "- ( ( ( ( ( 2 ) ) ) ) ) ; wind 0 0 0 ; hill 0 0 1 1 1 0 0 0 ;";
    private static final String[] TOKENS = {"isle", "wind", "church", "push", "reach", "foo", "north", "not", "and", "or",
        "size", "1", "6", "61", "9999", "12345", ";", "(", ")", "+", "-", "*", "/", "<", "=", "#", ":", "'"};

    public static void main(String[] args) {
        nothingTold();
        twentyBytes();
        sevenHundred();
        longestText();
        firstBytesOnly();
        cutWithinTokens();
        nothingOfEarlierTexts();
        emptyTexts();
        numbersOfIsles();
        kinds();
        sixIsles();
        hoursOfWinds();
        winds();
        twelveWinds();
        churches();
        weights();
        reachAndLight();
        allAnew();
        rulesAnew();
        statusStays();
        allIsGone();
        placesOfFaults();
        everyByte();
        longestRow();
        digits();
        tooSoon();
        everyTokenEverywhere();
        firstAlongTheText();
        leastOfOneToken();
        within();
        sideBySide();
        noValues();
        taken();
        seconds();
        Check.finish();
    }

    // ---- promises 1 to 5 ----

    /** "No ISLES, all as without." */
    private static void nothingTold() {
        TetherSky x = new TetherSky();
        withoutAll(x);
        for (int what : new int[] {0, 5, 6, 7, 8, 9, 10, 11}) {
            Check.same("count(" + what + ")", x.count(what), 0);
        }
        for (int hour = 0; hour < 168; hour++) {
            Check.same("wind along x in " + hour, x.wind(hour, 0), 0);
            Check.same("wind along y in " + hour, x.wind(hour, 1), 0);
        }
        Check.noSuch("isle(0, 0)", () -> x.isle(0, 0));
        Check.noSuch("where(0, 0, 0)", () -> x.where(0, 0, 0));
        Check.noSuch("winch(0, 5)", () -> x.winch(0, 5));
        Check.noSuch("rope(0)", () -> x.rope(0));
        Check.noSuch("tangle(0, 0)", () -> x.tangle(0, 0));
        Check.noSuch("freed(0)", () -> x.freed(0));
        Check.same("freed(NONE)", x.freed(-1), 0);
        Check.same("knock", x.knock(0, 167, 0), -1);
        Check.same("the least winching", x.least(0, 23, 4, false), 0);
        Check.same("rich", x.rich(0, 167), -1);
        Check.same("fits", x.fits(0), 0);
        Check.same("the first", x.fits(1), -1);
        Check.same("gust", x.gust(0, 0) * 10 + x.gust(0, 1), 1);
        Check.same("calm", x.calm(0, 7, 0) * 10 + x.calm(0, 7, 1), 11);
        Check.same("week", x.week(1, -1), 0);
        Check.same("undo", x.undo(), -1);
        Check.same("uncross", x.uncross(), -1);
        Check.same("cross", x.cross(0, true), -1);
        Check.same("restore", x.restore(), false);
        x.image();
        Check.same("restore behind an image", x.restore(), true);
        Check.same("without a FAULT", x.fault(), -1);
    }

    /** "Twenty bytes come behind the tape, of each number the highest first: how many it has" */
    private static void twentyBytes() {
        for (int at = 0; at < 20; at++) {
            TetherSky x = new TetherSky();
            int[] row = {0x20202020, 0x20202020, 0x20202020, 0x20202020, 0x20202020};
            Check.same("how many", x.feed(row[0], row[1], row[2], row[3], row[4]), 20);
            row[at / 4] |= 0xff << 24 - at % 4 * 8;
            Check.same("how many", x.feed(row[0], row[1], row[2], row[3], row[4]), 40);
            Check.same("a byte that is none", x.sky(40), 1);
            Check.same("its place", x.fault(), 20 + at);
        }
    }

    /** "NONE, and none come, if it would have more than 700" */
    private static void sevenHundred() {
        TetherSky x = new TetherSky();
        int blank = 0x20202020;
        for (int i = 1; i <= 34; i++) {
            x.feed(blank, blank, blank, blank, blank);
        }
        Check.same("680", x.count(8), 680);
        Check.same("700 are not more", x.feed(0x72656163, 0x6820373b, blank, blank, 0x20202078), 700);
        Check.same("720 are", x.feed(blank, blank, blank, blank, blank), -1);
        Check.same("none came", x.count(8), 700);
        Check.same("what was there stays", x.sky(700), 1);
        Check.same("with its last byte", x.fault(), 699);
        Check.same("it begins anew", x.feed(blank, blank, blank, blank, blank), 20);
    }

    /** "A TEXT of at most 700 bytes tells it." */
    private static void longestText() {
        StringBuilder text = new StringBuilder("reach 7;");
        while (text.length() < 692) {
            text.append('\n');
        }
        text.append("light 9;");
        TetherSky x = Check.under(text.toString());
        Check.same("the text's length", text.length(), 700);
        Check.same("its first line", x.count(3), 7);
        Check.same("its last line", x.count(4), 9);
        text.setLength(699);
        Check.faulty(text + "#", 1, 699);
        Check.faulty(text.toString(), 1, 699);
    }

    /** "The tape's first n bytes (it is empty then)" */
    private static void firstBytesOnly() {
        for (int n = 0; n <= 20; n++) {
            TetherSky x = new TetherSky();
            Check.feed(x, "reach 1;light 2;");
            boolean whole = n == 0 || n == 8 || n >= 16;
            Check.same("sky(" + n + ")", x.sky(n), whole ? 0 : 1);
            boolean inWord = n < 5 || n > 8 && n < 13;
            int place = whole ? -1 : inWord ? n / 9 * 8 : n;
            Check.same("fault behind sky(" + n + ")", x.fault(), place);
            Check.same("REACH behind sky(" + n + ")", x.count(3), whole && n > 0 ? 1 : 2);
            Check.same("LIGHT behind sky(" + n + ")", x.count(4), n >= 16 ? 2 : 8);
            Check.same("the tape behind sky(" + n + ")", x.count(8), 0);
            Check.illegal("it is empty", () -> x.sky(1));
        }
    }

    /** A TOKEN is what the first n bytes hold of it, whatever stands behind them. */
    private static void cutWithinTokens() {
        cut("reach 12;", 7, 1, 7);
        cut("reach 123456;", 8, 1, 8);
        cut("reach 123456;", 9, 2, 6);
        cut("push 123456;", 9, 1, 9);
        cut("push 123456;", 10, 2, 5);
        cut("push sizes;", 9, 1, 9);
        cut("push sizes;", 8, 3, 5);
        cut("reach 2;light", 11, 1, 8);
        cut("reach 2;reachs", 13, 5, 8);
        cut("church eastern;", 11, 1, 11);
    }

    private static void cut(String text, int n, int fault, int place) {
        TetherSky x = new TetherSky();
        Check.feed(x, text);
        Check.same("first " + n + " of " + text, x.sky(n), fault);
        Check.same("their fault", x.fault(), place);
    }

    private static void nothingOfEarlierTexts() {
        for (char earlier : new char[] {'1', 'x', ';', '(', ' '}) {
            TetherSky x = new TetherSky();
            StringBuilder row = new StringBuilder();
            while (row.length() < 700) {
                row.append(earlier);
            }
            Check.same("700 of them", takeText(x, row.toString()), earlier == ' ' ? 0 : 1);
            Check.same("a NUMBER at the end", takeText(x, "reach 1"), 1);
            Check.same("the text's length", x.fault(), 7);
            Check.same("a word at the end", takeText(x, "push size"), 1);
            Check.same("the text's length", x.fault(), 9);
            Check.same("a line's end", takeText(x, "reach 1;"), 0);
            Check.same("REACH", x.count(3), 1);
        }
        StringBuilder digits = new StringBuilder("reach 1;push ");
        while (digits.length() < 696) {
            digits.append(' ');
        }
        Check.faulty(digits + "1234", 1, 700);
        Check.faulty(digits + "size", 1, 700);
        Check.faulty(digits + "sizw", 3, 696);
    }

    /** "SKY: LINE*": none is enough. */
    private static void emptyTexts() {
        for (String text : new String[] {"", " ", "\n", "  \n \n ", "                    "}) {
            TetherSky x = Check.under(ALL_TOLD);
            Check.feed(x, text);
            Check.same("sky", x.sky(text.length()), 0);
            withoutAll(x);
            Check.same("no isles", x.count(0), 0);
        }
    }

    // ---- numbers ----

    private static int[] goodNumbers() {
        return new int[] {10, 11, 20, 50, 2, 6, 4, 1};
    }

    /** "0 to 60 each ... 1 to 60 yards ... 1 to 99 ... 1 to 6 ... 0 to 20 ... 0 to 60 ... 0 to 9" */
    private static void numbersOfIsles() {
        for (String word : new String[] {"isle", "hill", "reef"}) {
            for (int at = 0; at < 8; at++) {
                for (int number = 0; number <= MOST[at] + 2; number++) {
                    numberOfIsle(word, at, String.valueOf(number), number >= LEAST[at] && number <= MOST[at]);
                }
                numberOfIsle(word, at, "9999", false);
                numberOfIsle(word, at, "10000", false);
                numberOfIsle(word, at, "00001", false);
                numberOfIsle(word, at, "0001", true);
            }
        }
    }

    private static void numberOfIsle(String word, int at, String number, boolean good) {
        StringBuilder text = new StringBuilder(word);
        int place = 0;
        int[] numbers = goodNumbers();
        for (int i = 0; i < 8; i++) {
            place = i == at ? text.length() + 1 : place;
            text.append(' ').append(i == at ? number : String.valueOf(numbers[i]));
        }
        text.append(';');
        TetherSky x = new TetherSky();
        Check.feed(x, text.toString());
        Check.same(NUMBER_NAMES[at] + " of " + text, x.sky(text.length()), good ? 0 : 2);
        Check.same("place in " + text, x.fault(), good ? -1 : place);
        Check.same("isles of " + text, x.count(0), good ? 1 : 0);
        if (good) {
            Check.same(NUMBER_NAMES[at] + " as it is", x.isle(0, at + 1), Integer.parseInt(number));
        }
    }

    /** "KIND (0 isle, 1 hill, 2 reef)" */
    private static void kinds() {
        TetherSky x = Check.under("reef 1 1 9 9 1 0 0 0;isle 2 1 9 9 1 0 0 0;hill 3 1 9 9 1 0 0 0;");
        Check.same("reef", x.isle(0, 0), 2);
        Check.same("isle", x.isle(1, 0), 0);
        Check.same("hill", x.isle(2, 0), 1);
    }

    /** "ISLES 0, 1 .. (at most 6)"; "the first TOKEN of the 7th ISLE" */
    private static void sixIsles() {
        StringBuilder text = new StringBuilder("reach 3;");
        for (int i = 0; i < 6; i++) {
            text.append(i % 2 == 0 ? "isle " : "reef ").append(i).append(" 0 9 9 1 0 0 0;");
            TetherSky x = Check.under(text.toString());
            Check.same("isles", x.count(0), i + 1);
            Check.same("the latest", x.isle(i, 1), i);
        }
        for (String word : new String[] {"isle", "hill", "reef"}) {
            Check.faulty(text + word, 2, text.length());
            Check.faulty(text + "  " + word + " 0 0 0 0 0 0 0 99999;", 2, text.length() + 2);
            Check.faulty(text + "light 9; " + word + ";", 2, text.length() + 9);
        }
        Check.faulty(text + "isles", 1, text.length());
        Check.faulty(text + "wind 0 0 0;light 9;", 0, -1);
    }

    /** "from an HOUR (0 to 167) on" */
    private static void hoursOfWinds() {
        for (int hour = 0; hour <= 169; hour++) {
            Check.faulty("wind " + hour + " 1 1;", hour <= 167 ? 0 : 2, hour <= 167 ? -1 : 5);
        }
        for (int hour : new int[] {0, 1, 166, 167}) {
            TetherSky x = Check.under("wind " + hour + " 4 -5;");
            Check.same("from it on", x.wind(hour, 0) * 10 + x.wind(hour, 1), 35);
            Check.same("to the end", x.wind(167, 0) * 10 + x.wind(167, 1), 35);
            Check.same("not ahead of it", hour == 0 ? 0 : x.wind(hour - 1, 0) * 10 + x.wind(hour - 1, 1), 0);
        }
        Check.faulty("wind 10000 1 1;", 2, 5);
    }

    /** "along x, along y (-9 to 9 each)"; "of a SIGNED at the NUMBER" */
    private static void winds() {
        for (int along = -11; along <= 11; along++) {
            boolean good = along >= -9 && along <= 9;
            int sign = along < 0 ? 1 : 0;
            Check.faulty("wind 7 " + along + " 0;", good ? 0 : 2, good ? -1 : 7 + sign);
            Check.faulty("wind 7 0 " + along + ";", good ? 0 : 2, good ? -1 : 9 + sign);
            if (good) {
                Check.same("along x", Check.under("wind 7 " + along + " 0;").wind(7, 0), along);
                Check.same("along y", Check.under("wind 7 0 " + along + ";").wind(7, 1), along);
            }
        }
        Check.faulty("wind 7 -  10 0;", 2, 10);
        Check.faulty("wind 7 0 -\n12345;", 2, 11);
        Check.same("a blank behind the sign", Check.under("wind 7 - 9 0;").wind(7, 0), -9);
        Check.same("no blank ahead of it", Check.under("wind 7 8-9;").wind(7, 1), -9);
        Check.same("no less than nothing", Check.under("wind 7 -0 -0;").wind(7, 1), 0);
    }

    /** "WINDS (at most 12)"; "the 13th WIND" */
    private static void twelveWinds() {
        StringBuilder text = new StringBuilder();
        for (int i = 0; i < 12; i++) {
            text.append("wind ").append(160 - 3 * i).append(" 1 1;");
            Check.same("winds", Check.under(text.toString()).count(1), i + 1);
        }
        Check.faulty(text + "wind 1 1 1;", 2, text.length());
        Check.faulty(text + " wind 160 1 1;", 2, text.length() + 1);
        Check.faulty(text + "winds", 1, text.length());
        Check.faulty(text + "isle 1 1 1 1 1 1 1 1;", 0, -1);
    }

    /** "CHURCH: a SIDE (north without)"; "0 north, 1 east, 2 south, 3 west" */
    private static void churches() {
        String[] sides = {"north", "east", "south", "west"};
        Check.same("without", Check.under("reach 3;").count(2), 0);
        for (int side = 0; side < 4; side++) {
            Check.same(sides[side], Check.under("church " + sides[side] + ";").count(2), side);
        }
        Check.faulty("church northeast;", 1, 7);
        Check.faulty("church nort;", 1, 7);
        Check.faulty("church lift;", 1, 7);
    }

    /** "WEIGHTS of 0 to 3 (0 to 9 each; 1, 0, 0, 0 without)"; "the fourth WEIGHT, if all are 0" */
    private static void weights() {
        TetherSky without = Check.under("reach 3;");
        for (int at = 0; at < 4; at++) {
            Check.same("without", without.count(20 + at), at == 0 ? 1 : 0);
            for (int weight = 0; weight <= 11; weight++) {
                int[] row = {1, 1, 1, 1};
                row[at] = weight;
                String text = "gusts " + row[0] + " " + row[1] + " " + row[2] + " " + row[3] + ";";
                Check.faulty(text, weight <= 9 ? 0 : 2, weight <= 9 ? -1 : 6 + 2 * at);
                Check.same("WEIGHT", weight <= 9 ? Check.under(text).count(20 + at) : weight, weight);
            }
            int[] alone = {0, 0, 0, 0};
            alone[at] = 1;
            Check.faulty("gusts " + alone[0] + " " + alone[1] + " " + alone[2] + " " + alone[3] + ";", 0, -1);
        }
        Check.faulty("gusts 0 0 0 0;", 2, 12);
        Check.faulty("gusts 0 00 000  0000;", 2, 16);
        Check.faulty("gusts 0 0 0 10;", 2, 12);
        Check.faulty("gusts 0 0 0;", 1, 11);
    }

    /** "REACH (0 to 20; 2 without). LIGHT (0 to 24; 8 without)." */
    private static void reachAndLight() {
        TetherSky without = Check.under("church east;");
        Check.same("REACH without", without.count(3), 2);
        Check.same("LIGHT without", without.count(4), 8);
        for (int number = 0; number <= 26; number++) {
            String reach = "reach " + number + ";";
            Check.faulty(reach, number <= 20 ? 0 : 2, number <= 20 ? -1 : 6);
            Check.same("REACH", number <= 20 ? Check.under(reach).count(3) : number, number);
            String light = "light " + number + ";";
            Check.faulty(light, number <= 24 ? 0 : 2, number <= 24 ? -1 : 6);
            Check.same("LIGHT", number <= 24 ? Check.under(light).count(4) : number, number);
        }
    }

    // ---- all anew ----

    private static int takeText(TetherSky x, String text) {
        Check.feed(x, text);
        return x.sky(text.length());
    }

    private static void withoutAll(TetherSky x) {
        int[] due = {0, 0, 2, 8};
        for (int what = 1; what <= 4; what++) {
            Check.same("count(" + what + ") without", x.count(what), due[what - 1]);
        }
        for (int what = 20; what <= 23; what++) {
            Check.same("count(" + what + ") without", x.count(what), what == 20 ? 1 : 0);
        }
        for (int hour : new int[] {0, 3, 167}) {
            Check.same("no wind", x.wind(hour, 0) * 100 + x.wind(hour, 1), 0);
        }
    }

    /** "are a SKY, all anew", text behind text, with texts between that have a FAULT at their end. */
    private static void allAnew() {
        TetherSky x = new TetherSky();
        for (int round = 0; round < 6; round++) {
            Check.same("all", takeText(x, ALL_TOLD), 0);
            Check.same("isles", x.count(0), 2);
            Check.same("winds", x.count(1), 2);
            Check.same("push", x.where(0, 0, 3), 7);
            for (int i = 0; i < round % 3; i++) {
                Check.same("a fault", takeText(x, ALL_TOLD.replace("7", "9") + "isle"), 1);
                Check.same("push stays", x.where(0, 0, 3), 7);
            }
            x.knot(0, true);
            Check.same("one", takeText(x, ONE_TOLD), 0);
            withoutAll(x);
            Check.same("isles", x.count(0), 1);
            Check.same("KIND", x.isle(0, 0), 1);
            Check.same("no KNOTS", x.isle(0, 9), 0);
            Check.same("push", x.where(0, 0, 3), 50);
            Check.noSuch("isle 1", () -> x.isle(1, 0));
        }
    }

    /** A rule is read anew as well: nothing of a longer one told ahead is left, whatever stood at its end. */
    private static void rulesAnew() {
        String isle = "isle 1 1 5 90 1 0 0 0;push ";
        String[] longer = {"not 5;", "not not 5;", "1+2;", "1*(2+3);", "1 and not 0;", "1 or not 1;", "7-(9<(not 3));", "lift/size;"};
        for (String rule : longer) {
            TetherSky x = new TetherSky();
            for (int i = 0; i < 3; i++) {
                Check.same("a longer rule", takeText(x, isle + rule), 0);
            }
            for (int i = 0; i < 3; i++) {
                Check.same("a number", takeText(x, isle + "60;"), 0);
                Check.same("PUSH behind " + rule, x.where(0, 0, 3), 60);
            }
            for (int i = 0; i < 3; i++) {
                Check.same("two parts", takeText(x, isle + "60+4;"), 0);
                Check.same("PUSH behind " + rule, x.where(0, 0, 3), 64);
            }
            for (int i = 0; i < 3; i++) {
                Check.same("no rule", takeText(x, "isle 1 1 5 90 1 0 0 0;"), 0);
                Check.same("PUSH without one", x.where(0, 0, 3), 50);
            }
        }
    }

    /** "0 (STATUS stays)" */
    private static void statusStays() {
        TetherSky x = Check.under(ALL_TOLD);
        Check.same("a fault", takeText(x, "x"), 1);
        x.winch(0, 0);
        x.winch(0, 0);
        x.see(0, 0, 61);
        x.cross(9, true);
        x.cross(9, true);
        Check.same("a text", takeText(x, ONE_TOLD), 0);
        Check.same("TEXTS", x.count(9), 1);
        Check.same("ACTS", x.count(10), 2);
        Check.same("CROSSINGS and what is SEEN", x.count(11), 3);
        Check.same("a fault", takeText(x, "reach 99;"), 2);
        Check.same("TEXTS", x.count(9), 2);
        Check.same("ACTS", x.count(10), 2);
        Check.same("CROSSINGS and what is SEEN", x.count(11), 3);
    }

    /** "ACTS, CROSSINGS, what is SEEN, rows that are kept, the image are gone." */
    private static void allIsGone() {
        for (String text : new String[] {ALL_TOLD, ""}) {
            TetherSky x = Check.under(ALL_TOLD);
            x.winch(0, 7);
            x.knot(0, true);
            x.cross(0, true);
            x.see(0, 0, 9);
            Check.same("rows", x.least(0, 1, 0, false), 0);
            x.image();
            Check.same("anew", takeText(x, text), 0);
            Check.same("ACTS", x.count(5), 0);
            Check.same("none is UNDONE", x.undo(), -1);
            Check.same("CROSSINGS", x.count(6), 0);
            Check.same("none is left", x.freed(-1), 0);
            Check.same("none goes back", x.uncross(), -1);
            Check.same("SEEN", x.count(7), 0);
            Check.noSuch("rows", () -> x.rope(0));
            Check.same("the image", x.restore(), false);
        }
        TetherSky again = Check.under(ALL_TOLD);
        again.winch(0, 7);
        takeText(again, ALL_TOLD);
        Check.same("ROPE as told", again.isle(0, 3), 5);
        Check.same("all is fitting", again.fits(0), 18);
    }

    /** "The place of the latest sky()'s FAULT; NONE without." */
    private static void placesOfFaults() {
        TetherSky x = new TetherSky();
        Check.same("ahead of all", x.fault(), -1);
        Check.same("sky", takeText(x, "reach 2;foo"), 1);
        Check.same("its place", x.fault(), 8);
        Check.same("sky", takeText(x, "reach 99;"), 2);
        Check.same("the latest", x.fault(), 6);
        Check.illegal("too many bytes", () -> x.sky(1));
        Check.same("it stays", x.fault(), 6);
        x.image();
        Check.same("sky", takeText(x, "reach"), 1);
        Check.same("the text's length", x.fault(), 5);
        x.restore();
        Check.same("the image keeps no place", x.fault(), 5);
        Check.same("sky", takeText(x, "reach 2;"), 0);
        Check.same("without", x.fault(), -1);
    }

    // ---- tokens ----

    /** "TOKENS: words ..., NUMBERS ..., signs ; ( ) + - * / < = ; blanks (32, 10)": each of the 256 bytes. */
    private static void everyByte() {
        for (int number = 0; number < 256; number++) {
            char sign = (char) number;
            boolean blank = number == 32 || number == 10;
            boolean letter = sign >= 'a' && sign <= 'z';
            boolean digit = sign >= '0' && sign <= '9';
            String reach = "reach" + sign + "3;";
            if (blank || sign == '0' || sign == '1') {
                Check.faulty(reach, 0, -1);
            } else if (digit) {
                Check.faulty(reach, 2, 5);
            } else {
                Check.faulty(reach, 1, letter ? 0 : 5);
            }
            String push = "push 1" + sign + "1;";
            if (digit || "+-*/<=".indexOf(sign) >= 0) {
                Check.faulty(push, 0, -1);
            } else {
                Check.faulty(push, 1, blank || sign == ';' ? 7 : 6);
            }
            Check.faulty("reach 3;" + sign, blank ? 0 : 1, blank ? -1 : 8);
            Check.faulty(sign + "reach 3;", blank ? 0 : 1, blank ? -1 : 0);
        }
    }

    /** "words (a .. z, the longest row)" */
    private static void longestRow() {
        Check.faulty("reachlight 3;", 1, 0);
        Check.faulty("reac 3;", 1, 0);
        Check.faulty("reachh 3;", 1, 0);
        Check.faulty("re ach 3;", 1, 0);
        Check.faulty("push liftlift;", 3, 5);
        Check.faulty("push lif;", 3, 5);
        Check.faulty("push knotss;", 3, 5);
        Check.faulty("push notlift;", 3, 5);
        Check.faulty("push 1 orlift;", 1, 7);
        Check.faulty("push 1or 2and 3;", 0, -1);
        Check.faulty("push 1 o r 2;", 1, 7);
        Check.faulty("isle1 1 1 1 1 1 1 1;", 0, -1);
    }

    /** "NUMBERS (1 to 4 digits)"; "a NUMBER of 5 digits or more" */
    private static void digits() {
        Check.faulty("push 0;", 0, -1);
        Check.faulty("push 9999;", 0, -1);
        Check.faulty("push 0000;", 0, -1);
        Check.faulty("push 00000;", 2, 5);
        Check.faulty("push 10000;", 2, 5);
        Check.faulty("push 1+99999;", 2, 7);
        Check.faulty("push 1 + 4294967296;", 2, 9);
        Check.faulty("reach 0003;", 0, -1);
        Check.faulty("reach 00003;", 2, 6);
        Check.faulty("reach 4294967299;", 2, 6);
        Check.faulty("reach 18446744073709551619;", 2, 6);
        Check.faulty("reach 3 4;", 1, 8);
        TetherSky x = Check.under("isle 1 1 9 9 1 0 0 0;push 9999-9989;");
        Check.same("four digits count", x.where(0, 0, 3), 10);
        StringBuilder text = new StringBuilder("reach ");
        while (text.length() < 699) {
            text.append('1');
        }
        Check.faulty(text + ";", 2, 6);
    }

    /** "or is none (the text's length where it ends too soon)": each line ended behind each of its tokens but the last. */
    private static void tooSoon() {
        String[] lines = {"isle 1 2 3 4 5 6 7 8 ;", "wind 5 - 1 - 2 ;", "wind 5 1 2 ;", "church west ;", "gusts 1 0 2 3 ;",
            "gusts 0 0 0 3 ;", "reach 4 ;", "light 5 ;", "push ( 1 + lift * 2 ) < 7 or not day and 3 / hour = 1 - 1 ;",
            "push ( ( ( ( ( 1 ) ) ) ) ) ;", "push not not not not not not 1 ;"};
        for (String line : lines) {
            String[] tokens = line.split(" ");
            for (int many = 1; many < tokens.length; many++) {
                StringBuilder text = new StringBuilder();
                for (int i = 0; i < many; i++) {
                    text.append(text.length() == 0 ? "" : " ").append(tokens[i]);
                }
                for (String behind : new String[] {"", " ", "\n \n"}) {
                    Check.faulty(text + behind, 1, text.length() + behind.length());
                }
                Check.faulty("hill 60 60 1 1 1 1 1 1;" + text, 1, 23 + text.length());
            }
        }
        Check.faulty("push ((((((", 1, 11);
        Check.faulty("push not not not not not not ", 1, 29);
    }

    /** "1 a TOKEN that can't stand there": in a text of all lines each token in place of, ahead of each one; each one left out. */
    private static void everyTokenEverywhere() {
        tokenEverywhere(CANON.split(" "));
        tokenEverywhere(NESTED.split(" "));
    }

    private static void tokenEverywhere(String[] canon) {
        sameAsModel(String.join(" ", canon));
        for (int at = 0; at < canon.length; at++) {
            sameAsModel(joined(canon, at, ""));
            for (String token : TOKENS) {
                sameAsModel(joined(canon, at, token));
                sameAsModel(joined(canon, at, token + " " + canon[at]));
            }
        }
    }

    private static String joined(String[] tokens, int at, String instead) {
        List<String> row = new ArrayList<>();
        for (int i = 0; i < tokens.length; i++) {
            row.add(i == at ? instead : tokens[i]);
        }
        return String.join(" ", row);
    }

    private static void sameAsModel(String text) {
        Model model = new Model();
        String filled = text + " ".repeat(19 - (text.length() + 19) % 20);
        for (int i = 0; i < filled.length(); i += 20) {
            int[] row = new int[5];
            for (int k = 0; k < 20; k++) {
                row[k / 4] = row[k / 4] << 8 | filled.charAt(i + k);
            }
            model.feed(row[0], row[1], row[2], row[3], row[4]);
        }
        int fault = model.sky(text.length());
        Check.faulty(text, fault, model.fault());
    }

    // ---- faults ----

    /** "FAULTS, the first along the text, at a TOKEN's first byte" */
    private static void firstAlongTheText() {
        Check.faulty("reach 99;foo;", 2, 6);
        Check.faulty("foo;reach 99;", 1, 0);
        Check.faulty("isle 61 61 61 0 0 0 0;", 2, 5);
        Check.faulty("isle 1 1 0 x;", 2, 9);
        Check.faulty("reach 3;reach 99;", 5, 8);
        Check.faulty("push foo + 10000;", 3, 5);
        Check.faulty("push 10000 + foo;", 2, 5);
        Check.faulty("wind 5 1 1;wind 5 99 99;", 4, 16);
        Check.faulty("wind 5 1 1;wind 168 1 1;wind 5 1 1;", 2, 16);
        Check.faulty("reach     99;", 2, 10);
        Check.faulty("push lift   hour;", 1, 12);
    }

    /** "of one TOKEN the least" */
    private static void leastOfOneToken() {
        Check.faulty("reach 2 12345;", 1, 8);
        Check.faulty("wind 5 - - 12345;", 1, 9);
        Check.faulty("reach 2 reach 2;", 1, 8);
        Check.faulty("reach reach 2;", 1, 6);
        Check.faulty("push 1 12345;", 1, 7);
        Check.faulty("push 1 foo;", 1, 7);
        Check.faulty("push 1 push 2;", 1, 7);
        Check.faulty("push ((((((foo", 2, 11);
        Check.faulty("push ((((((not", 2, 11);
        Check.faulty("push ((((((or", 2, 11);
        Check.faulty("push (((((()", 1, 11);
        Check.faulty("push ((((((+", 1, 11);
        Check.faulty("push ((((((-1", 1, 11);
        Check.faulty("push 1+push;", 3, 7);
        Check.faulty("church church", 1, 7);
        Check.faulty("gusts 1 gusts", 1, 8);
        Check.faulty("church east church", 1, 12);
        StringBuilder six = new StringBuilder();
        for (int i = 0; i < 6; i++) {
            six.append("isle ").append(i).append(" 0 9 9 1 0 0 0;");
        }
        Check.faulty(six + "reach 2 isle", 1, six.length() + 8);
        Check.faulty(six + "isle isle", 2, six.length());
    }

    /** "of an EXPR within 6 others (a NUMBER, any word, a parenthesis)" */
    private static void within() {
        Check.faulty("push (((((1)))));", 0, -1);
        Check.faulty("push (((((not lift or 2)))));", 0, -1);
        for (String first : new String[] {"1", "12345", "lift", "foo", "not", "isle", "("}) {
            Check.faulty("push ((((((" + first + "))))));", 2, 11);
            Check.faulty("push 1+(2*(not (3<(4 or (5 and (" + first, 2, 32);
            Check.faulty("push (((((1)))))+((((((" + first, 2, 23);
        }
        for (String first : new String[] {")", ";", "+", "-", "*", "/", "<", "=", "#", ""}) {
            Check.faulty("push ((((((" + first, 1, 11);
        }
        Check.faulty("push (((((1)))))*(((((2)))))-(((((3)))));", 0, -1);
        Check.faulty("push (1)+((2))+(((3)))+((((4))))+(((((5)))))+((((((6))))));", 2, 51);
    }

    /** "the seventh 'not' side by side" */
    private static void sideBySide() {
        String six = "not not not not not not ";
        Check.faulty("push " + six + "1;", 0, -1);
        Check.faulty("push " + six + "not 1;", 2, 29);
        Check.faulty("push " + six + "not", 2, 29);
        Check.faulty("push " + six + "not not 1;", 2, 29);
        Check.faulty("push " + six + "nots;", 3, 29);
        Check.faulty("push " + six + "(" + six + "1);", 0, -1);
        Check.faulty("push " + six + "(" + six + "not 1);", 2, 54);
        Check.faulty("push " + six + "1 and " + six + "1 or " + six + "1;", 0, -1);
        Check.faulty("push 1 and " + six + "not 1;", 2, 35);
        Check.faulty("push (((((" + six + "1)))));", 0, -1);
        Check.faulty("push (((((" + six + "not 1)))));", 2, 34);
    }

    /** "any word where a PART must stand that is no VALUE" */
    private static void noValues() {
        String[] values = {"lift", "weight", "rope", "knots", "people", "hour", "day", "size"};
        String[] others = {"or", "and", "isle", "hill", "reef", "wind", "church", "gusts", "reach", "light", "push", "north",
            "a", "z", "lifts", "goats", "load"};
        String[] ahead = {"", "(", "not ", "1+", "1-", "1*", "1/", "1<", "1=", "1 or ", "1 and ", "1+(", "1<(not "};
        for (String start : ahead) {
            int place = 5 + start.length();
            boolean open = start.contains("(");
            for (String value : values) {
                Check.faulty("push " + start + value + (open ? ");" : ";"), 0, -1);
            }
            for (String other : others) {
                Check.faulty("push " + start + other, 3, place);
            }
            boolean part = start.length() == 2 && start.charAt(1) != '(';
            Check.faulty("push " + start + "not", part ? 3 : 1, part ? place : place + 3);
        }
    }

    /** "4 the Y of an ISLE at whose POST one is, the HOUR of a WIND from which there is one" */
    private static void taken() {
        StringBuilder text = new StringBuilder();
        for (int i = 0; i < 5; i++) {
            text.append("isle ").append(i).append(" 7 9 9 1 0 0 0;");
        }
        for (int i = 0; i < 5; i++) {
            Check.faulty(text + "reef " + i + " 7 9 9 1 0 0 0;", 4, text.length() + 7);
            Check.faulty(text + "hill " + i + "  07", 4, text.length() + 8);
            Check.faulty(text + "hill " + i + " 8 9 9 1 0 0 0;", 0, -1);
            Check.faulty(text + "hill 7 " + i + " 9 9 1 0 0 0;", 0, -1);
        }
        StringBuilder winds = new StringBuilder();
        for (int i = 0; i < 11; i++) {
            winds.append("wind ").append(10 + i).append(" 1 1;");
        }
        for (int i = 0; i < 11; i++) {
            Check.faulty(winds + "wind " + (10 + i) + " 1 1;", 4, winds.length() + 5);
        }
        Check.faulty(winds + "wind 9 1 1;", 0, -1);
        Check.faulty(winds + "wind 21 1 1;", 0, -1);
        TetherSky x = Check.under("isle 1 1 9 9 1 0 0 0;wind 5 1 1;");
        Check.same("another text, the same POST and HOUR", takeText(x, "isle 1 1 9 9 1 0 0 0;wind 5 1 1;"), 0);
    }

    /** "5 a second 'church', 'gusts', 'reach', 'light', 'push'" */
    private static void seconds() {
        String[] lines = {"church east;", "gusts 1 2 3 4;", "reach 3;", "light 3;", "push 3;"};
        String[] words = {"church", "gusts", "reach", "light", "push"};
        String all = String.join("", lines);
        Check.faulty(all, 0, -1);
        for (int i = 0; i < 5; i++) {
            Check.faulty(lines[i] + lines[i], 5, lines[i].length());
            Check.faulty(all + " " + words[i], 5, all.length() + 1);
            Check.faulty(all + words[i] + "s", 1, all.length());
        }
        Check.faulty(all + "isle 1 1 9 9 1 0 0 0;wind 5 1 1;", 0, -1);
    }
}
