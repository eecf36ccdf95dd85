/** Promises 9 to 14, 18, 19: the pass and its mules made by calls. */
public final class PassTest {
    private static NinthStep x;

    public static void main(String[] args) {
        length();
        put();
        mule();
        stand();
        teach();
        slip();
        muleOf();
        placeOf();
        Due.end();
    }

    private static void length() {
        x = new NinthStep();
        Due.is("9: length", x.length(60), 30);
        Due.is("9: length", x.length(1), 60);
        Due.is("9: length", x.length(20), 1);
        Due.is("9: 0", x.length(0), -2);
        Due.is("9: 61", x.length(61), -2);
        for (int what = 0; what < 4; what++) {
            x.put(10, what, true);
            Due.is("9: something above", x.length(9), -5);
            Due.is("9: at the end", x.length(10), 20);
            Due.is("9: longer", x.length(20), 10);
            x.put(10, what, false);
        }
        Due.is("9: nothing above any more", x.length(5), 20);
        x.mule(0, 2, 0);
        Due.is("9: there are mules", x.length(30), -5);
        Due.is("9: there are mules, and it is bad", x.length(61), -2);
        Due.is("9: still", x.status(0), 5);
        Due.is("9: refused as stuck", x.status(15), 5);
        Due.is("9: no place above the end", x.put(6, 0, true), -2);
    }

    private static void put() {
        x = new NinthStep();
        for (int what = 0; what < 3; what++) {
            Due.is("10: put", x.put(30, what, true), 1);
            Due.is("10: again", x.put(30, what, true), 0);
            Due.is("10: status", x.status(2 + what), 1);
        }
        Due.is("10: a view at a cliff", x.put(30, 3, true), -5);
        Due.is("10: no view at a cliff", x.put(30, 3, false), 0);
        Due.is("10: the cliff goes", x.put(30, 2, false), 1);
        Due.is("10: a view", x.put(30, 3, true), 1);
        Due.is("10: a cliff at a view", x.put(30, 2, true), -5);
        Due.is("10: no cliff at a view", x.put(30, 2, false), 0);
        Due.is("10: all there", x.placeOf(30), 11);
        Due.is("10: place 0", x.put(0, 0, true), 1);
        Due.is("10: place -1", x.put(-1, 0, true), -2);
        Due.is("10: place 31", x.put(31, 0, false), -2);
        Due.is("10: what -1", x.put(0, -1, true), -2);
        Due.is("10: what 4", x.put(0, 4, true), -2);
        Due.is("10: refused", x.status(12) * 10 + x.status(15), 42);
    }

    private static void mule() {
        x = new NinthStep();
        Due.is("11: kind -1", x.mule(-1, 2, 0), -2);
        Due.is("11: kind 6", x.mule(6, 2, 0), -2);
        Due.is("11: number 1", x.mule(0, 1, 0), -2);
        Due.is("11: number 14", x.mule(4, 14, 0), -2);
        Due.is("11: a -1", x.mule(0, 2, -1), -2);
        Due.is("11: a 10", x.mule(0, 2, 10), -2);
        for (int i = 0; i < 6; i++) {
            Due.is("11: mule", x.mule(i, i == 0 ? 2 : 13, i == 0 ? 0 : 9), i);
        }
        Due.is("11: full", x.mule(0, 2, 0), -6);
        Due.is("11: full, and bad", x.mule(0, 1, 0), -2);
        Due.is("11: six", x.status(1), 6);
        Due.is("11: refused as full", x.status(16), 1);
    }

    private static void stand() {
        x = new NinthStep();
        x.mule(0, 5, 0);
        Due.is("12: stand", x.stand(0, 30, 4), 0);
        Due.is("12: where it was", x.stand(0, 7, 2), 30);
        Due.is("12: count 5", x.stand(0, 3, 5), -2);
        Due.is("12: count -1", x.stand(0, 3, -1), -2);
        Due.is("12: place 31", x.stand(0, 31, 0), -2);
        Due.is("12: place -1", x.stand(0, -1, 0), -2);
        Due.is("12: no mule", x.stand(1, 0, 0), -2);
        Due.is("12: no mule", x.stand(-1, 0, 0), -2);
        Due.is("12: at", x.muleOf(0, 2), 7);
        Due.is("12: count", x.muleOf(0, 3), 2);
    }

    private static void teach() {
        x = Due.made("inn 1; inn 2; inn 3; mule 4 13 0 count 5");
        Due.is("13: teach", x.teach(0, 9), 13);
        Due.is("13: count", x.muleOf(0, 3), 0);
        Due.is("13: teach", x.teach(0, 13), 9);
        x.goes(0, 3);
        Due.is("13: doubled", x.muleOf(0, 1), 64);
        Due.is("13: a doubled one stands by its number", x.stand(0, 3, 63), 3);
        Due.is("13: taught again", x.teach(0, 2), 64);
        Due.is("13: count", x.muleOf(0, 3), 0);
        Due.is("13: 1", x.teach(0, 1), -2);
        Due.is("13: 14", x.teach(0, 14), -2);
        Due.is("13: no mule", x.teach(1, 2), -2);
        Due.is("13: number", x.muleOf(0, 1), 2);
    }

    private static void slip() {
        x = new NinthStep();
        Due.is("14: slip", x.slip(1000), 0);
        Due.is("14: slip", x.slip(7), 1000);
        Due.is("14: -1", x.slip(-1), -2);
        Due.is("14: 1001", x.slip(1001), -2);
        Due.is("14: status", x.status(6), 7);
    }

    private static void muleOf() {
        x = Due.made("mule 3 4 9 at 2 count 3");
        int[] due = {3, 4, 2, 3, 0, 9};
        for (int what = 0; what < 6; what++) {
            Due.is("18: muleOf " + what, x.muleOf(0, what), due[what]);
        }
        x.goes(0, 1);
        Due.is("18: rested", x.muleOf(0, 4), 10);
        Due.is("18: what -1", x.muleOf(0, -1), -2);
        Due.is("18: what 6", x.muleOf(0, 6), -2);
        Due.is("18: no mule", x.muleOf(1, 0), -2);
        Due.is("18: no mule", x.muleOf(-1, 0), -2);
    }

    private static void placeOf() {
        x = new NinthStep();
        x.length(60);
        int[] due = {1, 2, 4, 8};
        for (int what = 0; what < 4; what++) {
            x.put(57 + what, what, true);
            Due.is("19: placeOf", x.placeOf(57 + what), due[what]);
        }
        x.put(60, 0, true);
        x.put(60, 1, true);
        Due.is("19: together", x.placeOf(60), 11);
        Due.is("19: -1", x.placeOf(-1), -2);
        Due.is("19: 61", x.placeOf(61), -2);
    }
}
