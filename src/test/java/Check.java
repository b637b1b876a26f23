import java.util.NoSuchElementException;

/** What all tests need: calls with the answers that are due, and texts put on a tape. */
final class Check {
    interface Call {
        void run();
    }

    private static int wrong = 0;
    private static int checked = 0;

    private Check() {
    }

    static void same(String what, long got, long due) {
        checked++;
        if (got != due) {
            wrong++;
            System.out.println(what + " answered " + got + ", due is " + due);
        }
    }

    static void same(String what, boolean got, boolean due) {
        same(what, got ? 1 : 0, due ? 1 : 0);
    }

    static void sameRow(String what, long[] got, long[] due) {
        same(what + ", how much is told", got.length, due.length);
        for (int i = 0; i < got.length && i < due.length; i++) {
            same(what + ", told " + i, got[i], due[i]);
        }
    }

    static void noSuch(String what, Call call) {
        same(what + " throws", thrownBy(call), 1);
    }

    static void illegal(String what, Call call) {
        same(what + " throws", thrownBy(call), 2);
    }

    /** 0 nothing, 1 NoSuchElementException, 2 IllegalArgumentException, 3 another one. */
    static int thrownBy(Call call) {
        try {
            call.run();
            return 0;
        } catch (NoSuchElementException e) {
            return e.getClass() == NoSuchElementException.class ? 1 : 3;
        } catch (IllegalArgumentException e) {
            return e.getClass() == IllegalArgumentException.class ? 2 : 3;
        } catch (RuntimeException e) {
            return 3;
        }
    }

    /** Feeds a text; what is missing to a multiple of 20 is filled with blanks. */
    static void feed(TetherSky x, String text) {
        StringBuilder filled = new StringBuilder(text);
        while (filled.length() % 20 != 0) {
            filled.append(' ');
        }
        for (int at = 0; at < filled.length(); at += 20) {
            x.feed(number(filled, at), number(filled, at + 4), number(filled, at + 8),
                    number(filled, at + 12), number(filled, at + 16));
        }
    }

    private static int number(StringBuilder text, int at) {
        return text.charAt(at) << 24 | text.charAt(at + 1) << 16 | text.charAt(at + 2) << 8 | text.charAt(at + 3);
    }

    static TetherSky under(String text) {
        TetherSky x = new TetherSky();
        feed(x, text);
        same("sky of " + text, x.sky(text.length()), 0);
        return x;
    }

    /** A text's fault and its place. */
    static void faulty(String text, int fault, int place) {
        TetherSky x = new TetherSky();
        feed(x, text);
        same("sky of [" + text + "]", x.sky(text.length()), fault);
        same("fault() of [" + text + "]", x.fault(), place);
        same("count(9) of [" + text + "]", x.count(9), fault == 0 ? 0 : 1);
    }

    static void finish() {
        System.out.println(checked + " answers checked, " + wrong + " not as due");
        if (wrong != 0 || checked == 0) {
            System.exit(1);
        }
    }
}
