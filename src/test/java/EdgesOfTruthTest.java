/** The boundary cases of promises 39 to 46: JOURNEYS in truth, DRAWS, the image, the status. */
public final class EdgesOfTruthTest {
    private static final String MULE = "mule 0 5 3";
    private static final String SIX = Edge.times(6, MULE);

    public static void main(String[] args) {
        goes();
        turn();
        day();
        dayBySlips();
        draws();
        home();
        seed();
        image();
        back();
        backAndShelves();
        status();
        refusals();
        Due.end();
    }

    private static void goes() {
        Edge.does("39: the least n", MULE, "goes 0 1", 1, "muleOf 0 2 = 1");
        Edge.does("39: the greatest n", "length 60, " + MULE, "goes 0 60", 60, "muleOf 0 2 = 60, muleOf 0 4 = 12");
        Edge.refuses("39: below the least n", MULE, "goes 0 0", -2);
        Edge.refuses("39: below the least n", MULE, "goes 0 -1", -2);
        Edge.refuses("39: above the greatest n", MULE, "goes 0 61", -2);
        Edge.does("39: just to the END", MULE, "goes 0 30", 30, "muleOf 0 2 = 30");
        Edge.does("39: till the END", MULE, "goes 0 31", 30, "muleOf 0 2 = 30, muleOf 0 3 = 0, muleOf 0 4 = 6");
        Edge.does("39: just below the END", MULE, "goes 0 29", 29, "muleOf 0 2 = 29, muleOf 0 3 = 4, muleOf 0 4 = 5");
        Edge.thinks("39: from the END", MULE + ", stand 0 30 4", "goes 0 1", 30);
        Edge.thinks("39: from the END", MULE + ", stand 0 30 4", "goes 0 60", 30);
        Edge.does("39: no DRAWS, no slips", "slip 1000, mule 0 13 0", "goes 0 5", 5, "muleOf 0 3 = 5, status 9 = 1");
        Edge.does("39: the last MULE", SIX, "goes 5 3", 3, "muleOf 5 2 = 3, muleOf 4 2 = 0");
        Edge.refuses("39: above the last MULE", SIX, "goes 6 3", -2);
        Edge.refuses("39: below the first MULE", SIX, "goes -1 3", -2);
        Edge.refuses("39: no MULES", "", "goes 0 1", -2);
        Edge.does("39: FELL", "length 60, mule 1 2 9, " + Edge.fill(0, 60, 2), "goes 0 60", 60, "status 7 = 30, muleOf 0 4 = 300");
        for (String far : new String[] {Edge.MIN, Edge.MAX}) {
            Edge.refuses("39: far", SIX, "goes" + far + " 1", -2);
            Edge.refuses("39: far", SIX, "goes 0" + far, -2);
        }
    }

    private static void turn() {
        Edge.does("40: it STOPPED", MULE + ", stand 0 0 4", "turn 0", 1, "muleOf 0 3 = 0, muleOf 0 4 = 1");
        Edge.does("40: it didn't", MULE + ", stand 0 0 3", "turn 0", 0, "muleOf 0 3 = 4, muleOf 0 4 = 0");
        Edge.refuses("40: it is at the END", MULE + ", stand 0 30 4", "turn 0", -5);
        Edge.does("40: it is just below the END", MULE + ", stand 0 29 4", "turn 0", 1);
        Edge.does("40: no DRAWS, no slips", "slip 1000, " + MULE, "turn 0", 0, "muleOf 0 3 = 1, status 9 = 1");
        Edge.does("40: the last MULE", SIX, "turn 5", 0, "muleOf 5 3 = 1, muleOf 4 3 = 0");
        Edge.refuses("40: above the last MULE", SIX, "turn 6", -2);
        Edge.refuses("40: below the first MULE", SIX, "turn -1", -2);
        Edge.refuses("40: no MULES", "", "turn 0", -2);
        Edge.refuses("40: far", SIX, "turn" + Edge.MIN, -2);
        Edge.refuses("40: far", SIX, "turn" + Edge.MAX, -2);
        Edge.does("40: FELL", "put 0 2 1, mule 0 2 0, stand 0 0 1", "turn 0", 1, "status 7 = 1");
        Edge.does("40: SHY, many TURNS at a CLIFF", "put 0 2 1, mule 3 2 0, " + Edge.times(400, "turn 0"), "turn 0", 0,
            "muleOf 0 3 = 401, muleOf 0 4 = 0, status 7 = 0");
    }

    private static void day() {
        Edge.thinks("41: no MULES", "slip 1000", "day", 0);
        Edge.thinks("41: all at the END", MULE + ", stand 0 30 4, slip 1000, put 30 2 1", "day", 0);
        Edge.does("41: no CLIFFS", MULE, "day", 0, "muleOf 0 2 = 30, muleOf 0 4 = 6, status 7 = 0");
        Edge.does("41: one at the END", "put 30 2 1, " + MULE, "day", 1, "status 7 = 1");
        Edge.does("41: those of this DAY", "put 5 2 1, " + MULE + ", goes 0 5, home", "day", 1, "status 7 = 2");
        Edge.does("41: as many as can be", Edge.join("length 20", Edge.fill(1, 20, 0), Edge.fill(1, 20, 2), Edge.times(6, "mule 0 2 0")),
            "day", 120, "status 7 = 120, muleOf 5 4 = 20");
        Edge.does("41: a second DAY", MULE + ", day", "day", 0, "muleOf 0 2 = 30, muleOf 0 4 = 6");
        Edge.does("41: from where each is", "length 10, " + MULE + ", stand 0 8 0, " + MULE + ", stand 1 10 0", "day", 0,
            "muleOf 0 3 = 2, muleOf 1 3 = 0, status 9 = -1770082073");
    }

    /** The DRAWS from SEED 1 on are 838, 526, 113; COUNT is then 3 and how many of them were below SLIP. */
    private static void dayBySlips() {
        int[][] due = {{0, 3}, {113, 3}, {114, 4}, {526, 4}, {527, 5}, {838, 5}, {839, 6}, {1000, 6}};
        for (int[] pair : due) {
            Edge.does("41: by SLIP " + pair[0], "length 3, mule 0 13 0, slip " + pair[0], "day", 0,
                "muleOf 0 3 = " + pair[1] + ", status 9 = 662824084");
        }
        String cliff = "length 1, put 1 2 1, mule 0 2 0, slip ";
        Edge.does("41: ahead of the STOP", cliff + "839", "day", 1, "muleOf 0 3 = 0, muleOf 0 4 = 1, status 7 = 1");
        Edge.does("41: no slip, no STOP", cliff + "838", "day", 0, "muleOf 0 3 = 1, muleOf 0 4 = 0, status 7 = 0");
        Edge.does("41: by numbers", "length 1, mule 0 13 0, mule 0 13 0, slip 527", "day", 0, "muleOf 0 3 = 1, muleOf 1 3 = 2");
        for (int kind = 0; kind < 6; kind++) {
            Edge.does("41: one of KIND " + kind + " slips", "length 2, mule " + kind + " 13 0, slip 1000", "day", 0, "muleOf 0 3 = 4");
        }
        Edge.does("41: a slip and a STONE", "length 1, put 1 0 1, mule 0 13 0, slip 1000", "day", 0, "muleOf 0 3 = 3");
        Edge.does("41: SHY at a CLIFF", "length 1, put 1 2 1, mule 3 2 0, slip 1000", "day", 0, "muleOf 0 3 = 2, status 7 = 0");
    }

    /** One STEP by a SEED whose DRAW is known: it slips by SLIP one more than that, and not by SLIP just that. */
    private static void draw(String sentence, int seed, int drawn, int seedThen) {
        String mule = "length 1, mule 0 13 0, seed " + seed + ", slip ";
        Edge.does("41: " + sentence, mule + drawn, "day", 0, "muleOf 0 3 = 1, status 9 = " + seedThen);
        Edge.does("41: " + sentence, mule + (drawn + 1), "day", 0, "muleOf 0 3 = 2, status 9 = " + seedThen);
    }

    private static void draws() {
        draw("the least DRAW", 0, 0, 12345);
        draw("the greatest DRAW", 1290, 999, 1900503419);
        draw("SEED 1", 1, 838, 1103527590);
        draw("SEED wraps around, no sign", 1103527590, 526, -1770082073);
        draw("a SEED below 0", -1, 697, -1103502900);
        draw("the least SEED", Integer.MIN_VALUE, 768, -2147471303);
        draw("the upper 16 bits, all of them", 76347, 535, 76347 * 1103515245 + 12345);
    }

    private static void home() {
        Edge.thinks("42: no MULES", "", "home", 0);
        Edge.thinks("42: all AT 0 with COUNT 0", SIX, "home", 0);
        Edge.does("42: AT 0 with another COUNT", MULE + ", stand 0 0 4", "home", 0, "muleOf 0 3 = 0");
        Edge.does("42: all six", SIX + ", day", "home", 6, "muleOf 0 2 = 0, muleOf 5 2 = 0, muleOf 5 3 = 0, muleOf 5 4 = 6");
        Edge.does("42: one of six", SIX + ", goes 5 1", "home", 1, "muleOf 5 2 = 0, muleOf 5 3 = 0");
        Edge.does("42: NUMBER stays", "put 1 1 1, mule 4 13 0, goes 0 1", "home", 1, "muleOf 0 1 = 26, muleOf 0 2 = 0");
        Edge.does("42: FELL and SEED stay", "length 1, put 1 2 1, mule 0 2 0, stand 0 0 1, day", "home", 1,
            "status 7 = 1, status 9 = 1103527590");
    }

    private static void seed() {
        Edge.does("43: at first", "", "seed 5", 1, "status 9 = 5");
        Edge.does("43: the greatest", "seed 5", "seed" + Edge.MAX, 5, "status 9 = 2147483647, seed 0 = 2147483647");
        Edge.does("43: the least", "seed 5", "seed" + Edge.MIN, 5, "status 9 = -2147483648, seed 0 = -2147483648");
        for (int v = -6; v <= -1; v++) {
            Edge.does("43: the one ahead, though it looks refused", "seed " + v, "seed 1", v, "status 9 = 1");
        }
    }

    private static void image() {
        Edge.thinks("44: of a new object", "", "image", 1);
        Edge.thinks("44: all stays", SIX + ", put 3 2 1, row 0 2 3, show 1 5, feed 9", "image", 1);
        Edge.does("44: a second image", "length 9, image, length 8", "image", 1, "length 7 = 8, back = 1, status 0 = 8");
    }

    private static void back() {
        Edge.refuses("45: nothing was kept", "", "back", -5);
        Edge.refuses("45: nothing was kept", SIX + ", put 3 2 1", "back", -5);
        Edge.thinks("45: at once", SIX + ", put 3 2 1, image", "back", 1);
        Edge.does("45: twice", "image, length 9, back, length 8", "back", 1, "status 0 = 30, back = 1, status 0 = 30");
        Edge.does("45: END and things", "length 60, put 60 2 1, put 0 0 1, put 5 3 1, image, put 60 2 0, put 0 0 0, put 5 3 0,"
            + " put 1 1 1, length 5", "back", 1, "status 0 = 60, placeOf 60 = 4, placeOf 0 = 1, placeOf 5 = 8, placeOf 1 = 0");
        Edge.does("45: MULES", "mule 4 2 1, stand 0 3 1, image, put 4 1 1, put 4 2 1, goes 0 9, teach 0 9, mule 1 2 3", "back", 1,
            "status 1 = 1, muleOf 0 0 = 4, muleOf 0 1 = 2, muleOf 0 2 = 3, muleOf 0 3 = 1, muleOf 0 4 = 0, muleOf 0 5 = 1,"
            + " status 7 = 0, muleOf 1 0 = -2");
        Edge.does("45: from six MULES to none", "image, " + SIX, "back", 1, "status 1 = 0, length 9 = 30, mule 0 2 0 = 0");
        Edge.does("45: SLIP, FELL, SEED", "put 1 2 1, mule 0 2 0, stand 0 0 1, goes 0 1, slip 9, seed 7, image, home, stand 0 0 1,"
            + " day, slip 8", "back", 1, "status 6 = 9, status 7 = 1, status 9 = 7");
        Edge.does("45: THE TAPE is as it is", "feed 9, image, feed 9", "back", 1, "status 8 = 2");
        Edge.does("45: readings since, one with a FAULT", Edge.join("image, length 9", Edge.tape("stone 3")), "pass", 1,
            "feed 59 = 1, pass = -20, back = 1, status 0 = 30, status 2 = 0, status 12 = 1");
    }

    private static void backAndShelves() {
        String before = "mule 0 2 0, image, mule 0 3 0, show 0 0, show 1 1, row 2 2 3, set 2 1 8";
        Edge.does("45: those of the same numbers, or NOTHING", before, "back", 1,
            "holds 0 = 10, holds 1 = -1, holds 2 = 2, element 2 1 = 8, status 10 = 2");
        Edge.does("45: NOTHING stays NOTHING", before + ", back", "mule 1 9 0", 1, "holds 1 = -1, says 1 0 = -4, says 0 0 = 2");
        Edge.does("45: the last of six", SIX + ", show 0 5, image", "back", 1, "holds 0 = 15");
        Edge.does("45: no MULES", "image, " + SIX + ", show 0 0, show 7 5", "back", 1,
            "holds 0 = -1, holds 7 = -1, status 10 = 0");
        Edge.does("45: another MULE of the same number", "image, mule 0 2 0, show 0 0, back, mule 1 9 4, show 0 0, image", "back", 1,
            "holds 0 = 10, says 0 0 = 9, says 0 1 = 5");
        Edge.does("45: SHELVES filled since stay", "image, row 0 2 1, set 0 0 8", "back", 1, "element 0 0 = 8");
    }

    private static void status() {
        String[] before = {"length 60", SIX, "put 3 0 1", "put 3 1 1", "put 3 2 1", "put 3 3 1", "slip 1000",
            "length 1, put 1 2 1, mule 0 2 0, stand 0 0 1, goes 0 1", Edge.times(250, "feed 0"), "seed -6", "row 7 0 0"};
        int[] due = {60, 6, 1, 1, 1, 1, 1000, 1, 250, -6, 1};
        for (int what = 0; what < due.length; what++) {
            Edge.thinks("46: status", before[what], "status " + what, due[what]);
        }
        int[] others = {-1, -2, 11, 17, 18, Integer.MAX_VALUE, Integer.MIN_VALUE};
        for (int what : others) {
            Edge.thinks("46: NONE another what", SIX, "status " + what, -1);
        }
        Edge.thinks("46: SHELVES with MULES", SIX + ", show 0 0, show 1 0, show 7 5", "status 10", 3);
    }

    /** Each by its own number, and none by another; what is fine, and NONE, isn't one. */
    private static void refusals() {
        String[] calls = {"row 8 0 0 = -2", "says 0 0 = -3", "set 7 0 0 = -4", "turn 0 = -5", "mule 0 2 0 = -6"};
        for (int i = 0; i < calls.length; i++) {
            StringBuilder then = new StringBuilder(calls[i] + ", " + calls[i] + ", " + calls[i]);
            for (int k = 0; k < 5; k++) {
                then.append(", status ").append(12 + k).append(" = ").append(k == i ? 3 : 0);
            }
            Edge.does("46: REFUSALS", SIX + ", stand 0 30 0, row 0 2 1", "wipe", 0, then.toString());
        }
        Edge.does("46: REFUSALS stay, whatever comes back", "image", "back", 1, "row 8 0 0 = -2, back = 1, status 12 = 1");
        Edge.does("46: REFUSALS stay behind an image", "image", "back", 1, "row 8 0 0 = -2, image = 1, back = 1, status 12 = 1");
        Edge.does("46: a FAULT is BAD", "feed 9", "wipe", 1, "pass = -20, status 12 = 1, status 13 = 0, status 15 = 0");
    }
}
