import java.util.NoSuchElementException;

/** All that calls tell of an object, as a row of numbers. It undoes acts and restores: the object has served then. */
final class Whole {
    /** Where the row has STATUS 0. */
    static final int STATUS = 9;
    /** Where the row has the place of the fault. */
    static final int FAULT = 16;
    private static final int NOTHING = -1000;

    private final TetherSky x;
    private final int isles;
    private final long[] row = new long[600];
    private int size = 0;

    private Whole(TetherSky x) {
        this.x = x;
        this.isles = x.count(0);
    }

    static long[] of(TetherSky x) {
        Whole whole = new Whole(x);
        whole.readCounts();
        whole.add(x.fault());
        whole.readSky();
        whole.readIsles();
        whole.readRopes();
        whole.readKept();
        whole.readBehindUndoing();
        whole.add(x.restore() ? 1 : 0);
        whole.readCounts();
        whole.readIsles();
        whole.readRopes();
        return java.util.Arrays.copyOf(whole.row, whole.size);
    }

    private void add(long number) {
        row[size] = number;
        size++;
    }

    private void readCounts() {
        for (int what = 0; what < 12; what++) {
            add(x.count(what));
        }
        for (int what = 20; what < 24; what++) {
            add(x.count(what));
        }
    }

    private void readSky() {
        add(x.wind(0, 0));
        add(x.wind(3, 1));
        add(x.wind(167, 0));
        for (int isle = 0; isle < isles; isle++) {
            add(x.where(isle, 5, 3));
            add(x.where(isle, 154, 4));
        }
    }

    private void readIsles() {
        for (int isle = 0; isle < isles; isle++) {
            for (int what = 0; what < 16; what++) {
                add(x.isle(isle, what));
            }
        }
    }

    private void readRopes() {
        int left = x.freed(-1);
        add(left);
        for (int i = 0; i < left; i++) {
            add(x.freed(i));
        }
        add(x.fits(0));
        add(x.fits(1));
    }

    private void readKept() {
        for (int isle = 0; isle < isles; isle++) {
            try {
                add(x.rope(isle));
            } catch (NoSuchElementException e) {
                add(NOTHING);
            }
        }
    }

    private void readBehindUndoing() {
        for (int acts = x.count(5); acts > 0; acts--) {
            add(x.undo());
            for (int isle = 0; isle < isles; isle++) {
                add(x.isle(isle, 3) + 100 * x.isle(isle, 7) + 10000 * x.isle(isle, 8) + 100000 * x.isle(isle, 9));
                add(x.isle(isle, 12) + 100 * x.isle(isle, 13) + 10000 * x.isle(isle, 14) + 1000000L * x.isle(isle, 15));
            }
        }
        for (int crossings = x.count(6); crossings > 0; crossings--) {
            add(x.uncross());
            add(x.freed(-1));
        }
    }
}
