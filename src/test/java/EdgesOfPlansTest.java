/** The boundary cases of promises 26, 30, 33, 34 and 36: TURNS, TRAINS, STONES, NUMBERS, told LISTS. */
public final class EdgesOfPlansTest {
    private static final String MULE = "mule 0 5 3";
    private static final String SIX = Edge.times(6, MULE);

    public static void main(String[] args) {
        turnsRefuse();
        turnsAreThreeAtMost();
        turnsAreFirst();
        turnsAtTheEnds();
        turnsAtCliffs();
        turnsOfKinds();
        stonesRefuse();
        stonesFewest();
        stonesFirst();
        stonesOfKinds();
        trainRefuses();
        train();
        numbersRefuse();
        numbersOfPlaces();
        numbers();
        judgeRefuses();
        judge();
        Due.end();
    }

    /** The row of TURNS that is due, PLACE by PLACE, each asked of an object of its own. */
    private static void turnsAre(String sentence, String before, int... due) {
        int all = 0;
        for (int p = 0; p < due.length; p++) {
            Edge.thinks("26: " + sentence, before, "turns 0 " + p, due[p]);
            all += due[p];
        }
        Edge.thinks("26: " + sentence, before, "turns 0 -1", all);
    }

    private static void noTurns(String sentence, String before, int end) {
        for (int p = -1; p <= end; p++) {
            Edge.thinks("26: " + sentence, before, "turns 0 " + p, -1);
        }
    }

    private static void turnsRefuse() {
        Edge.thinks("26: NONE as place", SIX, "turns 0 -1", 0);
        Edge.thinks("26: at 0", SIX, "turns 0 0", 0);
        Edge.thinks("26: at the END", SIX, "turns 0 30", 0);
        Edge.refuses("26: below NONE", SIX, "turns 0 -2", -2);
        Edge.refuses("26: above the END", SIX, "turns 0 31", -2);
        Edge.refuses("26: above 60", "length 60, " + SIX, "turns 0 61", -2);
        Edge.thinks("26: the last MULE", SIX, "turns 5 -1", 0);
        Edge.refuses("26: above the last MULE", SIX, "turns 6 -1", -2);
        Edge.refuses("26: below the first MULE", SIX, "turns -1 -1", -2);
        Edge.refuses("26: no MULES", "", "turns 0 -1", -2);
        Edge.refuses("26: BAD, though there are none such", "length 1, put 1 3 1, mule 0 13 0", "turns 0 2", -2);
        for (String far : new String[] {Edge.MIN, Edge.MAX}) {
            Edge.refuses("26: far", SIX, "turns" + far + " 0", -2);
            Edge.refuses("26: far", SIX, "turns 0" + far, -2);
        }
    }

    private static void turnsAreThreeAtMost() {
        turnsAre("none", "length 1, put 1 3 1, mule 0 2 0, stand 0 0 1", 0, 0);
        turnsAre("one", "length 1, put 1 3 1, mule 0 2 0", 1, 0);
        turnsAre("three at one PLACE", "length 1, put 1 3 1, mule 0 4 0", 3, 0);
        noTurns("four at one PLACE", "length 1, put 1 3 1, mule 0 5 0", 1);
        turnsAre("three at each of two", "length 2, put 2 3 1, mule 0 8 0", 3, 3, 0);
        noTurns("four at one of two", "length 2, put 2 3 1, mule 0 9 0", 2);
        turnsAre("three at each of three", "length 3, put 3 3 1, mule 0 12 0", 3, 3, 3, 0);
        noTurns("NUMBER 13", "length 3, put 3 3 1, mule 0 13 0", 3);
        String doubled = "length 60, put 1 1 1, put 2 1 1, put 3 1 1, mule 4 13 0, goes 0 3, stand 0 59 ";
        Edge.thinks("26: NUMBER 64, COUNT 60", doubled + "60, put 60 3 1", "turns 0 -1", 3);
        Edge.thinks("26: NUMBER 64, COUNT 59", doubled + "59, put 60 3 1", "turns 0 -1", -1);
        Edge.thinks("26: NUMBER 64, COUNT 62", doubled + "62, put 60 3 1", "turns 0 -1", 1);
        Edge.thinks("26: NUMBER 64, COUNT 63", doubled + "63, put 60 2 1", "turns 0 -1", 1);
        Edge.thinks("26: many", "length 60, mule 0 12 0, " + Edge.fill(3, 3, 3) + ", put 6 3 1, put 9 3 1", "turns 0 -1", 27);
    }

    private static void turnsAreFirst() {
        turnsAre("fewer ahead of more", "length 4, put 4 3 1, mule 0 5 0", 0, 0, 0, 1, 0);
        turnsAre("no more than three late", "length 4, put 4 3 1, mule 0 9 0", 0, 0, 2, 3, 0);
        turnsAre("a TURN by which it STOPS at a VIEW", "length 3, put 2 3 1, mule 0 5 0", 0, 0, 3, 0);
        turnsAre("fewest comes first", "length 3, put 2 2 1, mule 0 2 0", 0, 1, 0, 0);
        turnsAre("GOOD as it is", "length 4, put 2 3 1, mule 0 2 0", 0, 0, 0, 0, 0);
    }

    private static void turnsAtTheEnds() {
        turnsAre("none at the END", "length 1, put 1 3 1, mule 0 3 0", 2, 0);
        turnsAre("0 below AT", "length 6, put 6 3 1, mule 0 4 0, stand 0 4 0", 0, 0, 0, 0, 0, 2, 0);
        turnsAre("from just below the END", "length 6, put 6 3 1, mule 0 4 0, stand 0 5 1", 0, 0, 0, 0, 0, 2, 0);
        turnsAre("from the END", "length 2, put 2 3 1, mule 0 4 0, stand 0 2 0", 0, 0, 0);
        turnsAre("a VIEW where it is AT", "length 2, put 1 3 1, mule 0 4 0, stand 0 1 0", 0, 0, 0);
        turnsAre("a VIEW below AT", "length 2, put 0 3 1, mule 0 4 0, stand 0 1 0", 0, 0, 0);
        turnsAre("a CLIFF at the END", "length 2, put 2 2 1, mule 0 2 0", 0, 1, 0);
        noTurns("NONE, below AT too", "length 6, put 6 3 1, mule 0 9 0, stand 0 5 0", 6);
    }

    private static void turnsAtCliffs() {
        turnsAre("a TURN at a CLIFF, no STOP", "length 2, put 1 2 1, put 2 3 1, mule 0 4 0", 0, 2, 0);
        noTurns("no STOP at a CLIFF by a TURN", "length 2, put 0 2 1, put 1 2 1, mule 0 2 0, stand 0 0 1", 2);
        turnsAre("a STOP where it is AT", "length 2, put 1 2 1, mule 0 2 0, stand 0 0 1", 1, 0, 0);
        noTurns("CLIFFS at all PLACES", Edge.join("length 13", Edge.fill(0, 13, 2), "mule 0 13 0"), 13);
        turnsAre("CLIFFS at all PLACES, but NUMBER isn't reached", Edge.join("length 3", Edge.fill(0, 3, 2), "mule 0 4 0"),
            0, 0, 0, 0);
    }

    private static void turnsOfKinds() {
        turnsAre("SHY, COUNT above NUMBER", "length 3, put 0 2 1, put 1 2 1, put 2 3 1, mule 3 2 0, stand 0 0 1", 0, 0, 0, 0);
        String waits = "length 2, put 0 2 1, put 2 3 1, mule 3 2 0, ";
        turnsAre("SHY, COUNT far above NUMBER", waits + Edge.times(5, "turn 0"), 0, 1, 0);
        turnsAre("SHY, COUNT farther above NUMBER", waits + Edge.times(90, "turn 0"), 0, 1, 0);
        turnsAre("SHY, TURNS at a CLIFF STOP not", "length 2, put 1 2 1, put 2 3 1, mule 3 3 0", 0, 1, 0);
        turnsAre("SHY, a VIEW behind CLIFFS", "length 4, put 1 2 1, put 2 2 1, put 4 3 1, mule 3 4 0", 0, 0, 0, 0, 0);
        turnsAre("DOUBLER, NUMBER is twice behind the INN", "length 3, put 1 1 1, put 3 3 1, mule 4 3 0", 0, 0, 3, 0);
        turnsAre("DOUBLER, NUMBER is as it was ahead of the INN", "length 2, put 1 1 1, put 1 3 1, mule 4 3 0", 2, 0, 0);
        turnsAre("LOOSE, a STONE counts not", "length 2, put 1 0 1, put 2 3 1, mule 2 3 0", 0, 1, 0);
        turnsAre("SLOW, a STONE counts", "length 2, put 1 0 1, put 2 3 1, mule 1 3 0", 0, 0, 0);
        noTurns("SURE, an INN at a CLIFF", "length 2, put 1 1 1, put 1 2 1, mule 5 9 0", 2);
        turnsAre("SURE, an INN at a VIEW", "length 2, put 1 1 1, put 1 3 1, mule 5 9 0", 0, 0, 0);
    }

    private static void stonesRefuse() {
        Edge.thinks("33: no MULES", "", "stones -1", 0);
        Edge.refuses("33: no MULES, the first", "", "stones 0", -5);
        Edge.refuses("33: no MULES, the second", "", "stones 1", -5);
        Edge.refuses("33: below NONE", "", "stones -2", -2);
        Edge.refuses("33: above the second", "", "stones 2", -2);
        Edge.refuses("33: far", "", "stones" + Edge.MIN, -2);
        Edge.refuses("33: far", "", "stones" + Edge.MAX, -2);
        String none = "length 2, put 2 2 1, mule 2 2 0";
        Edge.thinks("33: there are none such", none, "stones -1", -1);
        Edge.thinks("33: there are none such, the first", none, "stones 0", -1);
        Edge.thinks("33: there are none such, the second", none, "stones 1", -1);
        Edge.refuses("33: there are none such, BAD", none, "stones 2", -2);
    }

    private static void stonesAre(String sentence, String before, int... places) {
        Edge.thinks("33: " + sentence, before, "stones -1", places.length);
        for (int i = 0; i < 2; i++) {
            if (i < places.length) {
                Edge.thinks("33: " + sentence, before, "stones " + i, places[i]);
            } else {
                Edge.refuses("33: " + sentence + ", it needs fewer", before, "stones " + i, -5);
            }
        }
    }

    private static void noStones(String sentence, String before) {
        for (int what = -1; what <= 1; what++) {
            Edge.thinks("33: " + sentence, before, "stones " + what, -1);
        }
    }

    private static void stonesFewest() {
        String mule = "length 8, mule 0 6 0";
        stonesAre("none, no CLIFFS", mule);
        stonesAre("none, no STOP at a CLIFF", mule + ", put 5 2 1");
        stonesAre("one", mule + ", put 6 2 1", 1);
        stonesAre("two", mule + ", put 6 2 1, put 5 2 1", 1, 2);
        noStones("three", mule + ", put 6 2 1, put 5 2 1, put 4 2 1");
        stonesAre("one, with one there", mule + ", put 6 2 1, put 5 2 1, put 1 0 1", 2);
        stonesAre("two, with one there", mule + ", put 6 2 1, put 5 2 1, put 4 2 1, put 2 0 1", 1, 3);
        stonesAre("a CLIFF at the END", "length 6, mule 0 6 0, put 6 2 1", 1);
        stonesAre("from the END", "length 6, mule 0 6 0, put 6 2 1, stand 0 6 5");
        noStones("the next STEP in any case", "length 6, mule 0 6 0, put 6 2 1, stand 0 5 5");
        noStones("STONES at all PLACES", Edge.join("length 4, put 4 2 1, mule 0 8 0", Edge.fill(1, 4, 0)));
    }

    private static void stonesFirst() {
        stonesAre("the first above AT", "length 10, mule 0 6 0, put 9 2 1, stand 0 3 0", 4);
        stonesAre("the last that helps", "length 10, mule 0 6 0, put 9 2 1, stand 0 7 4", 8);
        stonesAre("by PLACES, one of several MULES each", "length 10, mule 0 3 0, mule 0 3 0, stand 1 5 0, put 3 2 1, put 8 2 1",
            1, 6);
        stonesAre("one for all six", "length 5, " + Edge.times(6, "mule 0 3 0") + ", put 3 2 1", 1);
        noStones("not for all MULES", "length 5, mule 0 3 0, mule 2 3 0, put 3 2 1");
        stonesAre("not just above AT", "length 10, mule 0 4 0, put 2 2 1, put 3 2 1, put 7 2 1, put 8 2 1", 5, 6);
        noStones("behind a CLIFF that can't be helped", "length 12, mule 0 6 0, put 6 2 1, stand 0 5 5");
        stonesAre("below AT of another MULE", "length 11, put 4 2 1, put 9 2 1, mule 0 4 0, mule 0 3 0, stand 1 5 0", 1);
        stonesAre("another MULE needs none", "length 11, put 4 2 1, put 7 2 1, mule 0 13 0, mule 0 4 0", 1, 2);
        stonesAre("60 PLACES", "length 60, mule 0 12 0, put 60 2 1", 1);
        stonesAre("60 PLACES, late", "length 60, mule 0 12 0, put 60 2 1, stand 0 58 10", 59);
    }

    private static void stonesOfKinds() {
        String cliff = "length 5, put 3 2 1, ";
        stonesAre("SLOW", cliff + "mule 1 3 9", 1);
        noStones("LOOSE", cliff + "mule 2 3 0");
        stonesAre("SHY", cliff + "mule 3 3 0");
        stonesAre("DOUBLER", cliff + "mule 4 3 0", 1);
        stonesAre("DOUBLER, an INN ahead of the CLIFF", cliff + "put 1 1 1, mule 4 3 0");
        stonesAre("DOUBLER, twice NUMBER is at the CLIFF", "length 6, put 6 2 1, put 1 1 1, mule 4 3 0", 1);
        String doubled = "length 60, put 1 1 1, put 2 1 1, put 3 1 1, put 4 2 1, mule 4 13 0, goes 0 3, stand 0 50 63";
        stonesAre("DOUBLER, NUMBER 64, COUNT 63", doubled + ", mule 0 4 0", 1);
        String waits = "length 9, put 5 2 1, put 6 2 1, put 4 2 1, mule 3 2 0, stand 0 5 1, ";
        stonesAre("SHY, COUNT is NUMBER", waits + "turn 0, mule 0 4 0", 1);
        stonesAre("SHY, COUNT far above NUMBER", waits + Edge.times(90, "turn 0") + ", mule 0 4 0", 1);
        noStones("SURE", cliff + "mule 5 3 0");
        noStones("SURE, by an INN", cliff + "put 3 1 1, mule 5 13 0");
    }

    private static final String HERD = "length 12, mule 0 2 0, mule 0 3 0, mule 0 4 0, mule 0 5 0, mule 0 6 0, mule 0 7 0";

    private static void trainRefuses() {
        String held = Edge.join(HERD, Edge.rowOf(0, 2, 0, 1, 2, 3, 4, 5), "show 1 0, row 3 2 0");
        Edge.thinks("30: the least n", held, "train 0 1", 6);
        Edge.thinks("30: the greatest n", held, "train 0 6", 10);
        Edge.refuses("30: below the least n", held, "train 0 0", -2);
        Edge.refuses("30: above the greatest n", Edge.join(HERD, Edge.rowOf(0, 2, 0, 1, 2, 3, 4, 5, 0)), "train 0 7", -2);
        Edge.refuses("30: below the first SHELF", held, "train -1 1", -2);
        Edge.refuses("30: above the last SHELF", held, "train 8 1", -2);
        Edge.refuses("30: a MULE", held, "train 1 1", -3);
        Edge.refuses("30: NOTHING", held, "train 2 1", -4);
        Edge.refuses("30: BAD n ahead of OTHER", held, "train 1 0", -2);
        Edge.refuses("30: BAD n ahead of NOTHING", held, "train 2 7", -2);
        Edge.refuses("30: an empty ROW", held, "train 3 1", -2);
        Edge.refuses("30: fewer elements", Edge.join(HERD, Edge.rowOf(0, 2, 0, 1, 2, 3, 4)), "train 0 6", -2);
        Edge.refuses("30: OTHER ahead of fewer elements", held, "train 1 6", -3);
        for (String far : new String[] {Edge.MIN, Edge.MAX}) {
            Edge.refuses("30: far", held, "train" + far + " 1", -2);
            Edge.refuses("30: far", held, "train 0" + far, -2);
        }
    }

    private static void train() {
        Edge.thinks("30: the last MULE", Edge.join(HERD, Edge.rowOf(0, 2, 5)), "train 0 1", 1);
        Edge.refuses("30: above the last MULE", Edge.join(HERD, Edge.rowOf(0, 2, 6)), "train 0 1", -2);
        Edge.refuses("30: below the first MULE", Edge.join(HERD, Edge.rowOf(0, 2, -1)), "train 0 1", -2);
        Edge.refuses("30: no MULES", Edge.rowOf(0, 2, 0), "train 0 1", -2);
        Edge.refuses("30: a number that wraps around to 0", Edge.join(HERD, Edge.rowOf(0, 3, 1L << 32)), "train 0 1", -2);
        Edge.refuses("30: far", Edge.join(HERD, Edge.rowOf(0, 3, Long.MAX_VALUE)), "train 0 1", -2);
        Edge.refuses("30: far", Edge.join(HERD, Edge.rowOf(0, 3, Long.MIN_VALUE)), "train 0 1", -2);
        Edge.refuses("30: one twice", Edge.join(HERD, Edge.rowOf(0, 2, 3, 3)), "train 0 2", -2);
        Edge.refuses("30: the first and the last are one", Edge.join(HERD, Edge.rowOf(0, 2, 0, 1, 2, 3, 4, 0)), "train 0 6", -2);
        Edge.thinks("30: what is behind n", Edge.join(HERD, Edge.rowOf(0, 2, 3, 3, 99)), "train 0 1", 2);
        Edge.thinks("30: booleans", Edge.join(HERD, Edge.rowOf(0, 4, 7, 0)), "train 0 2", 8);
        Edge.thinks("30: bytes", Edge.join(HERD, Edge.rowOf(0, 0, 256, 257)), "train 0 2", 8);
        Edge.thinks("30: in another order", Edge.join(HERD, Edge.rowOf(0, 2, 5, 4, 3, 2, 1, 0)), "train 0 6", 10);
        Edge.thinks("30: from the greatest AT of all", Edge.join(HERD, "stand 3 9 0", Edge.rowOf(0, 2, 0, 3, 1)), "train 0 3", 2);
        Edge.thinks("30: the greatest AT is the first's", Edge.join(HERD, "stand 0 9 0", Edge.rowOf(0, 2, 1, 0)), "train 0 2", 2);
        Edge.thinks("30: one at the END", Edge.join(HERD, "stand 3 12 0", Edge.rowOf(0, 2, 0, 3, 1)), "train 0 3", 0);
    }

    private static void numbersRefuse() {
        String held = Edge.join(Edge.rowOf(0, 2, 4, 9), MULE, "show 1 0, row 3 2 0");
        Edge.thinks("34: how many", held, "numbers 0 2 0", 1);
        Edge.thinks("34: bits", held, "numbers 0 2 1", 32);
        Edge.refuses("34: below the first what", held, "numbers 0 2 -1", -2);
        Edge.refuses("34: above the last what", held, "numbers 0 2 2", -2);
        Edge.refuses("34: below the least n", held, "numbers 0 0 0", -2);
        Edge.refuses("34: fewer elements", held, "numbers 0 3 0", -2);
        Edge.refuses("34: an empty ROW", held, "numbers 3 1 0", -2);
        Edge.refuses("34: below the first SHELF", held, "numbers -1 1 0", -2);
        Edge.refuses("34: above the last SHELF", held, "numbers 8 1 0", -2);
        Edge.refuses("34: a MULE", held, "numbers 1 1 0", -3);
        Edge.refuses("34: NOTHING", held, "numbers 2 1 0", -4);
        Edge.refuses("34: BAD n ahead of OTHER", held, "numbers 1 0 0", -2);
        Edge.refuses("34: BAD what ahead of OTHER", held, "numbers 1 1 2", -2);
        Edge.refuses("34: BAD n ahead of NOTHING", held, "numbers 2 41 0", -2);
        Edge.refuses("34: BAD what ahead of NOTHING", held, "numbers 2 1 -1", -2);
        Edge.refuses("34: OTHER ahead of fewer elements", held, "numbers 1 40 0", -3);
        for (String far : new String[] {Edge.MIN, Edge.MAX}) {
            Edge.refuses("34: far", held, "numbers" + far + " 1 0", -2);
            Edge.refuses("34: far", held, "numbers 0" + far + " 0", -2);
            Edge.refuses("34: far", held, "numbers 0 1" + far, -2);
        }
    }

    private static void numbersOfPlaces() {
        Edge.thinks("34: the least PLACE", Edge.rowOf(0, 2, 1), "numbers 0 1 0", 12);
        Edge.refuses("34: below the least PLACE", Edge.rowOf(0, 2, 0), "numbers 0 1 0", -2);
        Edge.refuses("34: below the least PLACE", Edge.rowOf(0, 2, -1), "numbers 0 1 0", -2);
        Edge.thinks("34: the END", Edge.rowOf(0, 2, 30), "numbers 0 1 0", 0);
        Edge.refuses("34: above the END", Edge.rowOf(0, 2, 31), "numbers 0 1 0", -2);
        Edge.refuses("34: above the END", "length 9, " + Edge.rowOf(0, 2, 10), "numbers 0 1 0", -2);
        Edge.thinks("34: 60", "length 60, " + Edge.rowOf(0, 2, 60), "numbers 0 1 0", 0);
        Edge.refuses("34: 61", "length 60, " + Edge.rowOf(0, 2, 61), "numbers 0 1 0", -2);
        Edge.refuses("34: not above the one ahead", Edge.rowOf(0, 2, 5, 5), "numbers 0 2 0", -2);
        Edge.refuses("34: below the one ahead", Edge.rowOf(0, 2, 5, 4), "numbers 0 2 0", -2);
        Edge.thinks("34: just above the one ahead", Edge.rowOf(0, 2, 5, 6), "numbers 0 2 0", 0);
        Edge.thinks("34: what is behind n", Edge.rowOf(0, 2, 1, 0, 99), "numbers 0 1 1", 16380);
        Edge.refuses("34: a number that wraps around to 5", Edge.rowOf(0, 3, 5 + (1L << 32)), "numbers 0 1 0", -2);
        Edge.refuses("34: far", Edge.rowOf(0, 3, Long.MAX_VALUE), "numbers 0 1 0", -2);
        Edge.refuses("34: far", Edge.rowOf(0, 3, Long.MIN_VALUE), "numbers 0 1 0", -2);
        Edge.thinks("34: a boolean", Edge.rowOf(0, 4, 30), "numbers 0 1 0", 12);
        Edge.thinks("34: a byte", Edge.rowOf(0, 0, 257), "numbers 0 1 0", 12);
        long[] forty = new long[40];
        for (int i = 0; i < 40; i++) {
            forty[i] = i + 1;
        }
        String full = Edge.join("length 60", Edge.fill(1, 60, 0), Edge.rowOf(0, 2, forty));
        Edge.thinks("34: a full ROW", full, "numbers 0 40 0", 2);
        Edge.thinks("34: a full ROW, bits", full, "numbers 0 40 1", 4);
        Edge.refuses("34: above the greatest n", full, "numbers 0 41 0", -2);
    }

    private static void numbers() {
        Edge.thinks("34: the greatest NUMBER", Edge.rowOf(0, 2, 13), "numbers 0 1 0", 1);
        Edge.thinks("34: the greatest NUMBER, bits", Edge.rowOf(0, 2, 13), "numbers 0 1 1", 8192);
        Edge.thinks("34: above the greatest NUMBER", Edge.rowOf(0, 2, 14), "numbers 0 1 0", 0);
        Edge.thinks("34: above the greatest NUMBER, bits", Edge.rowOf(0, 2, 14), "numbers 0 1 1", 0);
        Edge.thinks("34: the least NUMBER, COUNT 0", Edge.rowOf(0, 2, 2, 4), "numbers 0 2 1", 4);
        Edge.thinks("34: the least NUMBER, COUNT 1", Edge.rowOf(0, 2, 1, 3), "numbers 0 2 1", 4);
        Edge.thinks("34: just these PLACES", Edge.rowOf(0, 2, 4, 8), "numbers 0 2 1", 16);
        Edge.thinks("34: none between", Edge.rowOf(0, 2, 12), "numbers 0 1 0", 2);
        Edge.thinks("34: a STONE at 0", "put 0 0 1, " + Edge.rowOf(0, 2, 13), "numbers 0 1 0", 1);
        Edge.thinks("34: a STONE ahead", "put 1 0 1, " + Edge.rowOf(0, 2, 13), "numbers 0 1 0", 0);
        Edge.thinks("34: a STONE behind the last", "put 14 0 1, " + Edge.rowOf(0, 2, 13), "numbers 0 1 0", 1);
        Edge.thinks("34: a STONE by which COUNT is above", "put 13 0 1, " + Edge.rowOf(0, 2, 13), "numbers 0 1 0", 1);
        Edge.thinks("34: CLIFFS and INNS are nothing to it", "put 13 1 1, put 13 2 1, put 5 1 1, " + Edge.rowOf(0, 2, 13),
            "numbers 0 1 0", 1);
    }

    private static void judgeRefuses() {
        String held = Edge.join(SIX, Edge.rowOf(0, 2, 5, 10), "show 1 0, row 3 2 0");
        Edge.thinks("36: the least n", held, "judge 0 0 0", 0);
        Edge.refuses("36: below the least n", held, "judge 0 -1 0", -2);
        Edge.refuses("36: above the greatest n", held, "judge 0 41 0", -2);
        Edge.refuses("36: fewer elements", held, "judge 0 3 0", -2);
        Edge.refuses("36: an empty ROW", held, "judge 3 1 0", -2);
        Edge.thinks("36: an empty ROW, and no more told", held, "judge 3 0 0", 0);
        Edge.refuses("36: below the first SHELF", held, "judge -1 0 0", -2);
        Edge.refuses("36: above the last SHELF", held, "judge 8 0 0", -2);
        Edge.thinks("36: the last MULE", held, "judge 0 2 5", 2);
        Edge.refuses("36: above the last MULE", held, "judge 0 2 6", -2);
        Edge.refuses("36: below the first MULE", held, "judge 0 2 -1", -2);
        Edge.refuses("36: no MULES", Edge.rowOf(0, 2, 5), "judge 0 1 0", -2);
        Edge.refuses("36: a MULE in the SHELF", held, "judge 1 0 0", -3);
        Edge.refuses("36: NOTHING", held, "judge 2 0 0", -4);
        Edge.refuses("36: BAD n ahead of OTHER", held, "judge 1 41 0", -2);
        Edge.refuses("36: BAD MULE ahead of OTHER", held, "judge 1 0 6", -2);
        Edge.refuses("36: BAD n ahead of NOTHING", held, "judge 2 -1 0", -2);
        Edge.refuses("36: BAD MULE ahead of NOTHING", held, "judge 2 0 6", -2);
        Edge.refuses("36: OTHER ahead of fewer elements", held, "judge 1 40 0", -3);
        Edge.refuses("36: NOTHING ahead of fewer elements", held, "judge 2 40 0", -4);
        for (String far : new String[] {Edge.MIN, Edge.MAX}) {
            Edge.refuses("36: far", held, "judge" + far + " 0 0", -2);
            Edge.refuses("36: far", held, "judge 0" + far + " 0", -2);
            Edge.refuses("36: far", held, "judge 0 0" + far, -2);
        }
    }

    private static void judge() {
        String mule = "length 14, " + MULE;
        Edge.thinks("36: all so", Edge.join(mule, Edge.rowOf(0, 2, 5, 10)), "judge 0 2 0", -1);
        Edge.thinks("36: there are more", Edge.join(mule, Edge.rowOf(0, 2, 5, 10)), "judge 0 1 0", 1);
        Edge.thinks("36: none told, and there are", Edge.join(mule, Edge.rowOf(0, 2, 5, 10)), "judge 0 0 0", 0);
        Edge.thinks("36: one told too many", Edge.join(mule, Edge.rowOf(0, 2, 5, 10, 14)), "judge 0 3 0", 2);
        Edge.thinks("36: 0 told too many", Edge.join(mule, Edge.rowOf(0, 2, 5, 10, 0)), "judge 0 3 0", 2);
        Edge.thinks("36: NONE told too many", Edge.join(mule, Edge.rowOf(0, 2, 5, 10, -1)), "judge 0 3 0", 2);
        Edge.thinks("36: the first isn't so", Edge.join(mule, Edge.rowOf(0, 2, 4, 10)), "judge 0 2 0", 0);
        Edge.thinks("36: the last isn't so", Edge.join(mule, Edge.rowOf(0, 2, 5, 11)), "judge 0 2 0", 1);
        Edge.thinks("36: one left out", Edge.join(mule, Edge.rowOf(0, 2, 10)), "judge 0 1 0", 0);
        Edge.thinks("36: a number that wraps around to 5", Edge.join(mule, Edge.rowOf(0, 3, 5 + (1L << 32), 10)), "judge 0 2 0", 0);
        Edge.thinks("36: bytes", Edge.join(mule, Edge.rowOf(0, 0, 261, 10)), "judge 0 2 0", -1);
        Edge.thinks("36: booleans", Edge.join("length 1, mule 0 2 0, stand 0 0 1", Edge.rowOf(0, 4, 9)), "judge 0 1 0", -1);
        Edge.thinks("36: no STOPS, none told", "length 1, mule 0 2 0, row 0 2 0", "judge 0 0 0", -1);
        Edge.thinks("36: no STOPS, one told", Edge.join("length 1, mule 0 2 0", Edge.rowOf(0, 2, 1)), "judge 0 1 0", 0);
        Edge.thinks("36: from the END", Edge.join(MULE, "stand 0 30 0, row 0 2 0"), "judge 0 0 0", -1);
        long[] forty = new long[40];
        for (int i = 0; i < 40; i++) {
            forty[i] = 21 + i;
        }
        String full = Edge.join("length 60", Edge.fill(1, 60, 0), "mule 0 2 0", Edge.rowOf(0, 2, forty));
        Edge.thinks("36: a full ROW", full + ", stand 0 20 0", "judge 0 40 0", -1);
        Edge.thinks("36: a full ROW, one fewer told", full + ", stand 0 20 0", "judge 0 39 0", 39);
        Edge.thinks("36: a full ROW, and there are more", full + ", set 0 39 61, stand 0 20 0", "judge 0 40 0", 39);
        String lower = Edge.join("length 60", Edge.fill(1, 60, 0), "mule 0 2 0, stand 0 19 0", Edge.rowOf(0, 2, shifted(forty)));
        Edge.thinks("36: a full ROW, how many are told", lower, "judge 0 40 0", 40);
    }

    private static long[] shifted(long[] places) {
        long[] all = places.clone();
        for (int i = 0; i < all.length; i++) {
            all[i]--;
        }
        return all;
    }
}
