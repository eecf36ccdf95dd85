/** Promises 1 to 8: a new object, rows, shelves, what a mule says. */
public final class ShelfTest {
    private static NinthStep x;

    public static void main(String[] args) {
        newObject();
        row();
        set();
        setKeepsLowestBits();
        copy();
        copyRefuses();
        elementAndHolds();
        show();
        says();
        saysRefuses();
        Due.end();
    }

    private static void newObject() {
        x = new NinthStep();
        int[] due = {30, 0, 0, 0, 0, 0, 0, 0, 0, 1, 0, -1, 0, 0, 0, 0, 0, -1};
        for (int what = 0; what < due.length; what++) {
            Due.is("1: status " + what, x.status(what), due[what]);
        }
        for (int s = 0; s < 8; s++) {
            Due.is("1: holds " + s, x.holds(s), -1);
        }
        for (int p = 0; p <= 30; p++) {
            Due.is("1: placeOf " + p, x.placeOf(p), 0);
        }
        Due.is("1: placeOf 31", x.placeOf(31), -2);
        Due.is("1: wipe", x.wipe(), 0);
        Due.is("1: NONE", NinthStep.NONE, -1);
    }

    private static void row() {
        x = new NinthStep();
        for (int sort = 0; sort <= 4; sort++) {
            Due.is("2: row of sort " + sort, x.row(sort, sort, 40), 1);
            Due.is("2: holds", x.holds(sort), sort);
        }
        Due.is("2: row of none", x.row(7, 2, 0), 1);
        Due.is("2: set in a row of none", x.set(7, 0, 1), -2);
        x.set(0, 0, 9);
        Due.is("3: the last of 40", x.set(1, 39, 9), 1);
        Due.is("3: element", x.element(1, 39), 9);
        Due.is("3: behind it", x.set(1, 40, 9), -2);
        Due.is("2: a new row in its place", x.row(0, 0, 2), 1);
        Due.is("2: is new", x.element(0, 0), 0);
        Due.is("2: shelf -1", x.row(-1, 0, 1), -2);
        Due.is("2: shelf 8", x.row(8, 0, 1), -2);
        Due.is("2: sort -1", x.row(0, -1, 1), -2);
        Due.is("2: sort 5", x.row(0, 5, 1), -2);
        Due.is("2: n -1", x.row(0, 0, -1), -2);
        Due.is("2: n 41", x.row(0, 0, 41), -2);
        Due.is("2: the shelf is as it was", x.holds(0), 0);
        Due.is("2: refused", x.status(12), 8);
    }

    private static void set() {
        x = new NinthStep();
        x.mule(0, 2, 0);
        x.row(0, 2, 3);
        x.show(1, 0);
        Due.is("3: set", x.set(0, 2, -7), 1);
        Due.is("3: element", x.element(0, 2), -7);
        Due.is("3: shelf -1", x.set(-1, 0, 1), -2);
        Due.is("3: shelf 8", x.set(8, 0, 1), -2);
        Due.is("3: a mule, and a bad place", x.set(1, -1, 1), -3);
        Due.is("3: nothing, and a bad place", x.set(2, -1, 1), -4);
        Due.is("3: place -1", x.set(0, -1, 1), -2);
        Due.is("3: place 3", x.set(0, 3, 1), -2);
        Due.is("3: refused as bad", x.status(12), 4);
        Due.is("3: refused as other", x.status(13), 1);
        Due.is("3: refused as nothing", x.status(14), 1);
    }

    private static void setKeepsLowestBits() {
        x = new NinthStep();
        long v = 0x123456789abcdef0L;
        long[] due = {(byte) v, (short) v, (int) v, v, 1};
        for (int sort = 0; sort <= 4; sort++) {
            x.row(sort, sort, 1);
            Due.is("3: set", x.set(sort, 0, v), 1);
            Due.is("3: lowest bits of sort " + sort, x.element(sort, 0), due[sort]);
        }
        x.set(0, 0, 255);
        Due.is("3: a byte has a sign", x.element(0, 0), -1);
        x.set(4, 0, 256);
        Due.is("3: a boolean is not 0", x.element(4, 0), 1);
        x.set(4, 0, 0);
        Due.is("3: or is", x.element(4, 0), 0);
    }

    private static void copy() {
        x = new NinthStep();
        x.row(0, 1, 5);
        x.row(1, 1, 3);
        for (int i = 0; i < 5; i++) {
            x.set(0, i, 10 + i);
        }
        Due.is("4: copy", x.copy(0, 1, 3, 1, 2), 2);
        long[] due = {0, 13, 14};
        for (int i = 0; i < 3; i++) {
            Due.is("4: copied " + i, x.element(1, i), due[i]);
        }
        Due.is("4: onto itself, up", x.copy(0, 0, 0, 1, 4), 4);
        long[] up = {10, 10, 11, 12, 13};
        for (int i = 0; i < 5; i++) {
            Due.is("4: as they were, up " + i, x.element(0, i), up[i]);
        }
        Due.is("4: onto itself, down", x.copy(0, 0, 2, 0, 3), 3);
        long[] down = {11, 12, 13, 12, 13};
        for (int i = 0; i < 5; i++) {
            Due.is("4: as they were, down " + i, x.element(0, i), down[i]);
        }
        Due.is("4: none", x.copy(0, 1, 5, 3, 0), 0);
    }

    private static void copyRefuses() {
        x = new NinthStep();
        x.mule(0, 2, 0);
        x.row(0, 1, 5);
        x.row(1, 1, 3);
        x.row(2, 2, 3);
        x.show(3, 0);
        Due.is("4: no shelf", x.copy(-1, 0, 0, 0, 0), -2);
        Due.is("4: no shelf", x.copy(0, 8, 0, 0, 0), -2);
        Due.is("4: no shelf ahead of a mule", x.copy(3, 8, 0, 0, 0), -2);
        Due.is("4: a mule", x.copy(3, 0, 0, 0, 1), -3);
        Due.is("4: a mule", x.copy(0, 3, 0, 0, 1), -3);
        Due.is("4: a mule ahead of nothing", x.copy(4, 3, 0, 0, 1), -3);
        Due.is("4: two sorts, and bad places", x.copy(0, 2, 9, 9, 9), -3);
        Due.is("4: nothing, and bad places", x.copy(4, 0, 9, 9, 9), -4);
        Due.is("4: nothing", x.copy(0, 4, 0, 0, 1), -4);
        Due.is("4: n -1", x.copy(0, 1, 0, 0, -1), -2);
        Due.is("4: i -1", x.copy(0, 1, -1, 0, 1), -2);
        Due.is("4: j -1", x.copy(0, 1, 0, -1, 1), -2);
        Due.is("4: too many of p", x.copy(0, 1, 4, 0, 2), -2);
        Due.is("4: too many of q", x.copy(0, 1, 0, 2, 2), -2);
        Due.is("4: far too many", x.copy(0, 1, 1, 1, Integer.MAX_VALUE), -2);
        Due.is("4: from far", x.copy(0, 1, Integer.MAX_VALUE, 0, 1), -2);
        Due.is("4: least", x.copy(0, 1, 0, 0, Integer.MIN_VALUE), -2);
    }

    private static void elementAndHolds() {
        x = new NinthStep();
        x.mule(0, 2, 0);
        x.mule(1, 2, 0);
        x.row(0, 3, 2);
        x.set(0, 1, Long.MIN_VALUE);
        x.show(1, 1);
        Due.is("5: element", x.element(0, 1), Long.MIN_VALUE);
        Due.is("5: none", x.element(0, 2), 0);
        Due.is("5: none", x.element(0, -1), 0);
        Due.is("5: a mule", x.element(1, 0), 0);
        Due.is("5: nothing", x.element(2, 0), 0);
        Due.is("5: no shelf", x.element(8, 0) + x.element(-1, 0), 0);
        Due.is("6: a row", x.holds(0), 3);
        Due.is("6: a mule", x.holds(1), 11);
        Due.is("6: nothing", x.holds(2), -1);
        Due.is("6: no shelf", x.holds(8), -1);
        Due.is("6: no shelf", x.holds(-1), -1);
        Due.is("5, 6: nothing is refused", x.status(12) + x.status(13) + x.status(14), 0);
    }

    private static void show() {
        x = new NinthStep();
        Due.is("7: no mules", x.show(0, 0), -2);
        x.mule(0, 2, 0);
        x.row(0, 0, 3);
        x.set(0, 0, 1);
        Due.is("7: instead of a row", x.show(0, 0), 1);
        Due.is("7: holds", x.holds(0), 10);
        Due.is("7: the row is gone", x.element(0, 0), 0);
        Due.is("7: no such mule", x.show(0, 1), -2);
        Due.is("7: -2", x.show(0, -2), -2);
        Due.is("7: no shelf", x.show(8, 0), -2);
        Due.is("7: no shelf", x.show(-1, -1), -2);
        Due.is("7: still", x.holds(0), 10);
        Due.is("7: nothing", x.show(0, -1), 1);
        Due.is("7: holds nothing", x.holds(0), -1);
        Due.is("7: none in use", x.status(10), 0);
    }

    private static void says() {
        x = Due.made("stone 3; stone 4; stone 9; inn 4; inn 8; inn 20; cliff 4; cliff 5; cliff 6; cliff 7;"
            + "mule 0 9 7 at 4; mule 1 9 7 at 4; mule 2 9 7 at 4; mule 3 9 7 at 4; mule 4 9 7 at 4; mule 5 9 7 at 4");
        int[][] due = {
            {9, -3, -3, -3, -3, -3},
            {9, 8, -3, -3, -3, -3},
            {9, -3, 1, -3, -3, -3},
            {9, 8, -3, 3, -3, -3},
            {9, -3, -3, -3, 2, -3},
            {9, -3, 1, -3, -3, 8}};
        for (int m = 0; m < 6; m++) {
            x.show(m, m);
            for (int kind = 0; kind < 6; kind++) {
                Due.is("8: mule of kind " + m + " as " + kind, x.says(m, kind), due[m][kind]);
            }
        }
        x.stand(5, 20, 0);
        Due.is("8: no inn ahead", x.says(5, 5), -1);
    }

    private static void saysRefuses() {
        x = new NinthStep();
        x.row(0, 0, 1);
        x.mule(0, 2, 0);
        x.show(1, 0);
        Due.is("8: no shelf", x.says(8, 0), -2);
        Due.is("8: no shelf", x.says(-1, 0), -2);
        Due.is("8: kind 6 of a row", x.says(0, 6), -2);
        Due.is("8: kind -1", x.says(1, -1), -2);
        Due.is("8: a row", x.says(0, 0), -3);
        Due.is("8: nothing", x.says(2, 5), -4);
        Due.is("8: refused as other", x.status(13), 1);
    }
}
