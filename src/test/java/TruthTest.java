/** Promises 39 to 46: journeys in truth, the image, the status. */
public final class TruthTest {
    private static final String KINDS = "length 12; stone 2; inn 5; cliff 3; cliff 6;"
        + "mule 0 3 9; mule 1 3 2; mule 2 3 9; mule 3 3 1 count 2; mule 4 3 9; mule 5 3 9";

    private static NinthStep x;

    public static void main(String[] args) {
        goes();
        turn();
        day();
        dayDrawsForEachStep();
        slipsOnADayOnly();
        home();
        seed();
        imageAndBack();
        backAndShelves();
        status();
        Due.end();
    }

    private static void muleIs(String which, int mule, int... due) {
        for (int what = 0; what < due.length; what++) {
            Due.is(which + ": muleOf " + mule + " " + (what + 1), x.muleOf(mule, what + 1), due[what]);
        }
    }

    private static void goes() {
        x = Due.made(KINDS);
        Due.is("39: goes", x.goes(2, 3), 3);
        Due.is("39: fell", x.status(7), 1);
        muleIs("39", 2, 3, 3, 0, 1);
        Due.is("39: goes on", x.goes(2, 60), 12);
        Due.is("39: fell", x.status(7), 2);
        muleIs("39", 2, 3, 12, 0, 4);
        Due.is("39: at the end", x.goes(2, 1), 12);
        Due.is("39: a slow one", x.goes(1, 4), 4);
        muleIs("39", 1, 3, 4, 2, 3);
        Due.is("39: a doubler", x.goes(4, 5), 5);
        muleIs("39", 4, 6, 5, 0, 2);
        Due.is("39: a shy one", x.goes(3, 3), 3);
        muleIs("39", 3, 3, 3, 3, 2);
        Due.is("39: a sure one", x.goes(5, 5), 5);
        muleIs("39", 5, 3, 5, 0, 2);
        Due.is("39: fell at 3", x.status(7), 3);
        Due.is("39: 0", x.goes(0, 0), -2);
        Due.is("39: 61", x.goes(0, 61), -2);
        Due.is("39: no mule", x.goes(6, 1), -2);
        Due.is("39: no mule", x.goes(-1, 1), -2);
    }

    private static void turn() {
        x = Due.made("length 2; cliff 0; inn 1; mule 0 2 9; mule 1 2 9; mule 3 2 9; mule 4 2 0 at 1; mule 5 3 0 at 1");
        Due.is("40: turn", x.turn(0), 0);
        Due.is("40: it stops", x.turn(0), 1);
        muleIs("40", 0, 2, 0, 0, 1);
        Due.is("40: fell", x.status(7), 1);
        x.turn(1);
        Due.is("40: a slow one", x.turn(1), 1);
        muleIs("40", 1, 2, 0, 0, 10);
        Due.is("40: fell", x.status(7), 2);
        for (int i = 1; i <= 5; i++) {
            Due.is("40: a shy one", x.turn(2), 0);
            muleIs("40", 2, 2, 0, i, 0);
        }
        Due.is("40: fell", x.status(7), 2);
        x.put(0, 2, false);
        Due.is("40: a shy one where no cliff is", x.turn(2), 1);
        muleIs("40", 2, 2, 0, 0, 10);
        x.turn(3);
        Due.is("40: a turn doubles nothing", x.turn(3), 1);
        muleIs("40", 3, 2, 1, 0, 1);
        Due.is("40: an inn stops no turn", x.turn(4), 0);
        muleIs("40", 4, 3, 1, 1, 0);
        x.stand(0, 2, 0);
        Due.is("40: at the end", x.turn(0), -5);
        Due.is("40: no mule", x.turn(5), -2);
        Due.is("40: no mule", x.turn(-1), -2);
    }

    private static void day() {
        x = new NinthStep();
        Due.is("41: no mules", x.day(), 0);
        Due.is("41: no draws", x.status(9), 1);
        String text = "length 2; cliff 1; mule 0 2 0";
        int[][] due = {{839, 1, 2}, {838, 0, 1}, {526, 0, 1}, {1000, 1, 2}, {0, 0, 1}};
        for (int[] d : due) {
            x = Due.made(text);
            x.slip(d[0]);
            Due.is("41: day by " + d[0], x.day(), d[1]);
            Due.is("41: fell by " + d[0], x.status(7), d[1]);
            Due.is("41: rested by " + d[0], x.muleOf(0, 4), d[2]);
            Due.is("41: at by " + d[0], x.muleOf(0, 2), 2);
            Due.is("41: a second day", x.day(), 0);
            x.home();
            x.seed(1);
            Due.is("41: how many were this day", x.day(), d[1]);
            Due.is("41: fell in all", x.status(7), 2 * d[1]);
        }
        x = Due.made("length 4; cliff 1; cliff 2; cliff 3; cliff 4; mule 2 2 0; mule 3 2 0; mule 5 2 0");
        x.slip(1000);
        Due.is("41: loose ones slip, shy ones don't stop", x.day(), 8);
    }

    private static int drawn(int seed, int many) {
        int s = seed;
        for (int i = 0; i < many; i++) {
            s = s * 1103515245 + 12345;
        }
        return s;
    }

    private static void dayDrawsForEachStep() {
        x = Due.made("length 10; mule 0 2 0 at 3; mule 1 3 9; mule 0 2 0 at 10");
        x.day();
        Due.is("41: draws by slip 0", x.status(9), drawn(1, 17));
        x.home();
        x.seed(-99);
        x.slip(1000);
        x.day();
        Due.is("41: draws by slip 1000", x.status(9), drawn(-99, 30));
    }

    private static void slipsOnADayOnly() {
        x = Due.made("length 10; mule 0 13 0");
        x.slip(1000);
        x.goes(0, 5);
        x.turn(0);
        Due.is("39: no slips", x.muleOf(0, 3), 6);
        Due.is("39: no draws", x.status(9), 1);
        x.day();
        Due.is("41: slips", x.muleOf(0, 3), 2);
    }

    private static void home() {
        x = Due.made("inn 2; mule 4 2 0; mule 0 3 0 count 2; mule 0 2 0 at 9");
        x.goes(0, 3);
        Due.is("42: home", x.home(), 2);
        muleIs("42", 0, 4, 0, 0, 1);
        muleIs("42", 1, 3, 0, 0, 0);
        muleIs("42", 2, 2, 0, 0, 0);
        Due.is("42: again", x.home(), 0);
    }

    private static void seed() {
        x = new NinthStep();
        Due.is("43: seed", x.seed(-2), 1);
        Due.is("43: seed", x.seed(Integer.MIN_VALUE), -2);
        Due.is("43: status", x.status(9), Integer.MIN_VALUE);
        Due.is("43: nothing is refused", x.status(12), 0);
    }

    private static void imageAndBack() {
        x = Due.made(KINDS);
        Due.is("45: nothing was kept", x.back(), -5);
        x.slip(5);
        x.seed(77);
        x.goes(2, 3);
        Due.is("44: image", x.image(), 1);
        x.put(1, 3, true);
        x.put(2, 0, false);
        x.slip(1000);
        x.day();
        x.teach(0, 13);
        x.feed(59);
        x.row(3, 0, 1);
        for (int i = 0; i < 2; i++) {
            Due.is("45: back", x.back(), 1);
            int[] due = {12, 6, 1, 1, 2, 0, 5, 1, 1, 77, 1, -1, i, 0, 0, 1, 0};
            for (int what = 0; what < due.length; what++) {
                Due.is("45: status " + what, x.status(what), due[what]);
            }
            Due.is("45: stone", x.placeOf(2), 1);
            muleIs("45", 0, 3, 0, 0, 0, 9);
            muleIs("45", 2, 3, 3, 0, 1, 9);
            muleIs("45", 3, 3, 0, 2, 0, 1);
            x.home();
            x.put(2, 0, false);
            x.seed(0);
            x.goes(0, -1);
        }
        x.image();
        x.back();
        Due.is("45: a later image", x.status(2), 0);
    }

    private static void backAndShelves() {
        x = new NinthStep();
        x.length(40);
        x.mule(0, 2, 0);
        x.image();
        x.mule(1, 3, 4);
        x.show(0, 0);
        x.show(1, 1);
        x.row(2, 1, 3);
        x.set(2, 2, 8);
        x.back();
        Due.is("45: the same number", x.holds(0), 10);
        Due.is("45: no longer there", x.holds(1), -1);
        Due.is("45: a row stays", x.element(2, 2), 8);
        Due.is("45: shelves", x.status(10), 2);
        Due.is("45: the second is a new one", x.mule(2, 5, 0), 1);
        Due.is("45: and not on the shelf", x.says(1, 0), -4);
        Due.is("45: end", x.status(0), 40);
        x = new NinthStep();
        x.image();
        x.length(3);
        x.back();
        Due.is("45: end", x.status(0), 30);
    }

    private static void status() {
        x = Due.made("length 9; stone 1; stone 2; stone 3; stone 4; inn 1; inn 2; inn 3; view 1; view 2; cliff 3; mule 0 2 0");
        x.slip(6);
        x.seed(9);
        x.feed(1);
        x.row(0, 0, 0);
        x.show(7, 0);
        x.goes(0, 3);
        for (int i = 0; i < 5; i++) {
            x.goes(0, 0);
        }
        for (int i = 0; i < 4; i++) {
            x.set(7, 0, 0);
        }
        for (int i = 0; i < 3; i++) {
            x.set(1, 0, 0);
        }
        x.back();
        x.length(9);
        for (int i = 0; i < 6; i++) {
            x.mule(0, 2, 0);
        }
        int[] due = {9, 6, 4, 3, 1, 2, 6, 1, 1, 9, 2, -1, 5, 4, 3, 2, 1, -1};
        for (int what = 0; what < due.length; what++) {
            Due.is("46: status " + what, x.status(what), due[what]);
        }
        Due.is("46: -1", x.status(-1), -1);
        Due.is("46: far", x.status(Integer.MAX_VALUE), -1);
        Due.is("46: far", x.status(Integer.MIN_VALUE), -1);
        Due.is("46: NONE is not refused", x.status(12), 5);
    }
}
