/** The boundary cases of promises 9 to 14, 18 and 19: the PASS and its MULES made by calls. */
public final class EdgesOfPassTest {
    private static final String MULE = "mule 0 5 3";
    private static final String SIX = Edge.times(6, MULE);
    /** NUMBER 13 is doubled at each of three INNS: 26, 52, and 64 at most. */
    private static final String DOUBLED = Edge.fill(1, 3, 1) + ", mule 4 13 0, goes 0 3";

    public static void main(String[] args) {
        length();
        lengthStuck();
        put();
        putStuck();
        fullPass();
        mule();
        muleFull();
        stand();
        standByNumber();
        teach();
        slip();
        muleOf();
        placeOf();
        Due.end();
    }

    private static void length() {
        Edge.does("9: the least", "", "length 1", 30, "status 0 = 1, placeOf 1 = 0, placeOf 2 = -2");
        Edge.does("9: the greatest", "", "length 60", 30, "status 0 = 60, placeOf 60 = 0, placeOf 61 = -2");
        Edge.refuses("9: below the least", "", "length 0", -2);
        Edge.refuses("9: above the greatest", "", "length 61", -2);
        Edge.refuses("9: far", "", "length" + Edge.MIN, -2);
        Edge.refuses("9: far", "", "length" + Edge.MAX, -2);
        Edge.does("9: what it was", "length 60", "length 7", 60, "length 8 = 7");
        Edge.does("9: as it is", "", "length 30", 30, "status 0 = 30");
    }

    private static void lengthStuck() {
        for (int what = 0; what < 4; what++) {
            Edge.refuses("9: something at a PLACE above n", "put 10 " + what + " 1", "length 9", -5);
            Edge.does("9: something at n", "put 10 " + what + " 1", "length 10", 30, "status 0 = 10");
            Edge.refuses("9: something at the END", "length 60, put 60 " + what + " 1", "length 59", -5);
            Edge.does("9: something at 0", "put 0 " + what + " 1", "length 1", 30);
            Edge.does("9: no longer there", "put 10 " + what + " 1, put 10 " + what + " 0", "length 9", 30);
        }
        Edge.refuses("9: there are MULES", MULE, "length 31", -5);
        Edge.refuses("9: there are MULES, as it is", MULE, "length 30", -5);
        Edge.refuses("9: BAD ahead of STUCK", MULE, "length 0", -2);
        Edge.refuses("9: BAD ahead of STUCK", MULE, "length 61", -2);
        Edge.refuses("9: BAD ahead of STUCK", "put 1 0 1", "length 0", -2);
    }

    private static void put() {
        for (int what = 0; what < 4; what++) {
            int bit = 1 << what;
            Edge.does("10: at 0", "", "put 0 " + what + " 1", 1, "placeOf 0 = " + bit + ", status " + (2 + what) + " = 1");
            Edge.does("10: at the END", "", "put 30 " + what + " 1", 1, "placeOf 30 = " + bit + ", placeOf 29 = 0");
            Edge.does("10: at 60", "length 60", "put 60 " + what + " 1", 1, "placeOf 60 = " + bit);
            Edge.refuses("10: below 0", "", "put -1 " + what + " 1", -2);
            Edge.refuses("10: above the END", "", "put 31 " + what + " 1", -2);
            Edge.refuses("10: above the END, not", "", "put 31 " + what + " 0", -2);
            Edge.refuses("10: above an END that became less", "length 9", "put 10 " + what + " 1", -2);
            Edge.refuses("10: above 60", "length 60", "put 61 " + what + " 1", -2);
            Edge.thinks("10: it was so", "put 4 " + what + " 1", "put 4 " + what + " 1", 0);
            Edge.thinks("10: it was not so", "", "put 4 " + what + " 0", 0);
            Edge.does("10: not any more", "put 4 " + what + " 1", "put 4 " + what + " 0", 1, "placeOf 4 = 0");
        }
        Edge.refuses("10: below the first what", "", "put 4 -1 1", -2);
        Edge.refuses("10: above the last what", "", "put 4 4 1", -2);
        Edge.refuses("10: above the last what, not", "", "put 4 4 0", -2);
        for (String far : new String[] {Edge.MIN, Edge.MAX}) {
            Edge.refuses("10: far", "", "put" + far + " 0 1", -2);
            Edge.refuses("10: far", "", "put 4" + far + " 1", -2);
        }
    }

    private static void putStuck() {
        Edge.refuses("10: a CLIFF at a VIEW", "put 4 3 1", "put 4 2 1", -5);
        Edge.refuses("10: a VIEW at a CLIFF", "put 4 2 1", "put 4 3 1", -5);
        Edge.refuses("10: a CLIFF at a VIEW at 0", "put 0 3 1", "put 0 2 1", -5);
        Edge.refuses("10: a VIEW at a CLIFF at 60", "length 60, put 60 2 1", "put 60 3 1", -5);
        Edge.thinks("10: no CLIFF at a VIEW", "put 4 3 1", "put 4 2 0", 0);
        Edge.thinks("10: no VIEW at a CLIFF", "put 4 2 1", "put 4 3 0", 0);
        Edge.thinks("10: a CLIFF again", "put 4 2 1", "put 4 2 1", 0);
        Edge.thinks("10: a VIEW again", "put 4 3 1", "put 4 3 1", 0);
        Edge.does("10: a CLIFF where a VIEW was", "put 4 3 1, put 4 3 0", "put 4 2 1", 1, "placeOf 4 = 4");
        Edge.does("10: a VIEW where a CLIFF was", "put 4 2 1, put 4 2 0", "put 4 3 1", 1, "placeOf 4 = 8");
        Edge.does("10: a VIEW beside a CLIFF", "put 4 2 1", "put 5 3 1", 1, "placeOf 4 = 4, placeOf 5 = 8");
        Edge.does("10: STONE and INN at a CLIFF", "put 4 2 1, put 4 1 1", "put 4 0 1", 1, "placeOf 4 = 7");
        Edge.does("10: STONE and INN at a VIEW", "put 4 3 1, put 4 0 1", "put 4 1 1", 1, "placeOf 4 = 11");
        Edge.does("10: one goes, the others stay", "put 4 0 1, put 4 1 1, put 4 2 1", "put 4 1 0", 1, "placeOf 4 = 5");
        Edge.does("10: though there are MULES", MULE, "put 4 2 1", 1, "placeOf 4 = 4");
    }

    private static void fullPass() {
        for (int what = 0; what < 4; what++) {
            String all = "length 60, " + Edge.fill(0, 60, what);
            Edge.thinks("10: at all PLACES", all, "status " + (2 + what), 61);
            Edge.thinks("10: at all PLACES", all, "put 60 " + what + " 1", 0);
            Edge.does("10: at all but one", all, "put 60 " + what + " 0", 1, "status " + (2 + what) + " = 60, placeOf 60 = 0");
        }
        String full = Edge.join("length 60", Edge.fill(0, 60, 0), Edge.fill(0, 60, 1), Edge.fill(0, 60, 2));
        Edge.thinks("10: STONES, INNS, CLIFFS at all PLACES", full, "placeOf 60", 7);
        Edge.refuses("10: no VIEW any more", full, "put 0 3 1", -5);
    }

    private static void mule() {
        Edge.does("11: the first KIND", "", "mule 0 5 3", 0, "muleOf 0 0 = 0, status 1 = 1");
        Edge.does("11: the last KIND", "", "mule 5 5 3", 0, "muleOf 0 0 = 5");
        Edge.refuses("11: below the first KIND", "", "mule -1 5 3", -2);
        Edge.refuses("11: above the last KIND", "", "mule 6 5 3", -2);
        Edge.does("11: the least a", "", "mule 0 5 0", 0, "muleOf 0 5 = 0");
        Edge.does("11: the greatest a", "", "mule 0 5 9", 0, "muleOf 0 5 = 9");
        Edge.refuses("11: below the least a", "", "mule 0 5 -1", -2);
        Edge.refuses("11: above the greatest a", "", "mule 0 5 10", -2);
        for (int kind = 0; kind < 6; kind++) {
            String which = "11: of KIND " + kind;
            Edge.does(which + ", the least NUMBER", "", "mule " + kind + " 2 3", 0, "muleOf 0 1 = 2");
            Edge.does(which + ", the greatest NUMBER", "", "mule " + kind + " 13 3", 0, "muleOf 0 1 = 13");
            Edge.refuses(which + ", below the least NUMBER", "", "mule " + kind + " 1 3", -2);
            Edge.refuses(which + ", above the greatest NUMBER", "", "mule " + kind + " 14 3", -2);
            Edge.does(which + ", at first", "", "mule " + kind + " 5 3", 0, "muleOf 0 2 = 0, muleOf 0 3 = 0, muleOf 0 4 = 0");
        }
        Edge.refuses("11: 64 comes only later", "", "mule 4 64 3", -2);
        for (String far : new String[] {Edge.MIN, Edge.MAX}) {
            Edge.refuses("11: far", "", "mule" + far + " 5 3", -2);
            Edge.refuses("11: far", "", "mule 0" + far + " 3", -2);
            Edge.refuses("11: far", "", "mule 0 5" + far, -2);
        }
    }

    private static void muleFull() {
        Edge.does("11: the sixth", Edge.times(5, MULE), "mule 3 13 9", 5, "status 1 = 6, muleOf 5 0 = 3, muleOf 4 0 = 0");
        Edge.refuses("11: the seventh", SIX, "mule 0 5 3", -6);
        Edge.refuses("11: BAD KIND ahead of FULL", SIX, "mule 6 5 3", -2);
        Edge.refuses("11: BAD NUMBER ahead of FULL", SIX, "mule 0 1 3", -2);
        Edge.refuses("11: BAD a ahead of FULL", SIX, "mule 0 5 10", -2);
        Edge.does("11: room again", Edge.join(Edge.times(5, MULE), "image", MULE, "back"), "mule 1 2 0", 5);
    }

    private static void stand() {
        Edge.does("12: at 0", MULE + ", stand 0 9 0", "stand 0 0 0", 9, "muleOf 0 2 = 0");
        Edge.does("12: at the END", MULE, "stand 0 30 0", 0, "muleOf 0 2 = 30");
        Edge.does("12: at 60", "length 60, " + MULE, "stand 0 60 0", 0, "muleOf 0 2 = 60");
        Edge.refuses("12: below 0", MULE, "stand 0 -1 0", -2);
        Edge.refuses("12: above the END", MULE, "stand 0 31 0", -2);
        Edge.refuses("12: above 60", "length 60, " + MULE, "stand 0 61 0", -2);
        Edge.does("12: the last MULE", SIX, "stand 5 3 0", 0, "muleOf 5 2 = 3, muleOf 4 2 = 0");
        Edge.refuses("12: above the last MULE", SIX, "stand 6 3 0", -2);
        Edge.refuses("12: below the first MULE", SIX, "stand -1 3 0", -2);
        Edge.refuses("12: no MULES", "", "stand 0 3 0", -2);
        Edge.does("12: RESTED stays", "mule 1 2 9, goes 0 2", "stand 0 0 1", 2, "muleOf 0 4 = 10, muleOf 0 3 = 1");
        Edge.does("12: it STOPS nowhere by that", "mule 5 2 0, put 3 1 1, put 3 2 1", "stand 0 3 1", 0,
            "muleOf 0 3 = 1, muleOf 0 4 = 0, status 7 = 0");
        for (String far : new String[] {Edge.MIN, Edge.MAX}) {
            Edge.refuses("12: far", MULE, "stand" + far + " 3 0", -2);
            Edge.refuses("12: far", MULE, "stand 0" + far + " 0", -2);
            Edge.refuses("12: far", MULE, "stand 0 3" + far, -2);
        }
    }

    private static void standByNumber() {
        for (int kind = 0; kind < 6; kind++) {
            String mule = "mule " + kind + " 5 3";
            Edge.does("12: the least COUNT", mule, "stand 0 3 0", 0, "muleOf 0 3 = 0");
            Edge.does("12: the greatest COUNT", mule, "stand 0 3 4", 0, "muleOf 0 3 = 4");
            Edge.refuses("12: below the least COUNT", mule, "stand 0 3 -1", -2);
            Edge.refuses("12: above the greatest COUNT", mule, "stand 0 3 5", -2);
        }
        Edge.does("12: COUNT of NUMBER 2", "mule 0 2 0", "stand 0 3 1", 0);
        Edge.refuses("12: COUNT of NUMBER 2", "mule 0 2 0", "stand 0 3 2", -2);
        Edge.does("12: COUNT of NUMBER 13", "mule 0 13 0", "stand 0 3 12", 0);
        Edge.refuses("12: COUNT of NUMBER 13", "mule 0 13 0", "stand 0 3 13", -2);
        Edge.does("12: COUNT of NUMBER 64", DOUBLED, "stand 0 0 63", 3, "muleOf 0 3 = 63");
        Edge.refuses("12: COUNT of NUMBER 64", DOUBLED, "stand 0 0 64", -2);
    }

    private static void teach() {
        Edge.does("13: the least", MULE, "teach 0 2", 5, "muleOf 0 1 = 2");
        Edge.does("13: the greatest", MULE, "teach 0 13", 5, "muleOf 0 1 = 13");
        Edge.refuses("13: below the least", MULE, "teach 0 1", -2);
        Edge.refuses("13: above the greatest", MULE, "teach 0 14", -2);
        Edge.refuses("13: above the greatest, of a DOUBLER", "mule 4 5 3", "teach 0 14", -2);
        Edge.does("13: COUNT 0", MULE + ", stand 0 7 4", "teach 0 13", 5, "muleOf 0 3 = 0, muleOf 0 2 = 7");
        Edge.does("13: COUNT 0 by the same NUMBER", MULE + ", stand 0 7 4", "teach 0 5", 5, "muleOf 0 3 = 0");
        Edge.does("13: what was doubled", DOUBLED, "teach 0 2", 64, "muleOf 0 1 = 2");
        Edge.does("13: the last MULE", SIX, "teach 5 9", 5, "muleOf 5 1 = 9, muleOf 4 1 = 5");
        Edge.refuses("13: above the last MULE", SIX, "teach 6 9", -2);
        Edge.refuses("13: below the first MULE", SIX, "teach -1 9", -2);
        Edge.refuses("13: no MULES", "", "teach 0 9", -2);
        for (String far : new String[] {Edge.MIN, Edge.MAX}) {
            Edge.refuses("13: far", MULE, "teach" + far + " 9", -2);
            Edge.refuses("13: far", MULE, "teach 0" + far, -2);
        }
    }

    private static void slip() {
        Edge.does("14: the least", "slip 7", "slip 0", 7, "status 6 = 0");
        Edge.does("14: the greatest", "", "slip 1000", 0, "status 6 = 1000");
        Edge.does("14: what it was", "slip 1000", "slip 999", 1000, "status 6 = 999");
        Edge.refuses("14: below the least", "slip 7", "slip -1", -2);
        Edge.refuses("14: above the greatest", "slip 7", "slip 1001", -2);
        Edge.refuses("14: far", "", "slip" + Edge.MIN, -2);
        Edge.refuses("14: far", "", "slip" + Edge.MAX, -2);
    }

    private static void muleOf() {
        String one = "mule 3 6 9, stand 0 8 4";
        int[] due = {3, 6, 8, 4, 0, 9};
        for (int what = 0; what < due.length; what++) {
            Edge.thinks("18: of a MULE", one, "muleOf 0 " + what, due[what]);
        }
        Edge.refuses("18: below the first what", one, "muleOf 0 -1", -2);
        Edge.refuses("18: above the last what", one, "muleOf 0 6", -2);
        Edge.thinks("18: the last MULE", SIX, "muleOf 5 1", 5);
        Edge.refuses("18: above the last MULE", SIX, "muleOf 6 1", -2);
        Edge.refuses("18: below the first MULE", SIX, "muleOf -1 1", -2);
        Edge.refuses("18: no MULES", "", "muleOf 0 0", -2);
        Edge.thinks("18: NUMBER 64", DOUBLED, "muleOf 0 1", 64);
        Edge.thinks("18: COUNT above NUMBER", "put 0 2 1, mule 3 2 0, " + Edge.times(9, "turn 0"), "muleOf 0 3", 9);
        Edge.thinks("18: RESTED", "mule 3 2 9, goes 0 30", "muleOf 0 4", 150);
        for (String far : new String[] {Edge.MIN, Edge.MAX}) {
            Edge.refuses("18: far", one, "muleOf" + far + " 0", -2);
            Edge.refuses("18: far", one, "muleOf 0" + far, -2);
        }
    }

    private static void placeOf() {
        Edge.thinks("19: nothing", "", "placeOf 4", 0);
        int[][] things = {{0, 1}, {1, 2}, {2, 4}, {3, 8}};
        for (int[] thing : things) {
            Edge.thinks("19: at 0", Edge.fill(0, 0, thing[0]), "placeOf 0", thing[1]);
            Edge.thinks("19: at the END", Edge.fill(30, 30, thing[0]), "placeOf 30", thing[1]);
            Edge.thinks("19: at 60", "length 60, " + Edge.fill(60, 60, thing[0]), "placeOf 60", thing[1]);
        }
        Edge.thinks("19: STONE, INN, CLIFF together", "put 4 0 1, put 4 1 1, put 4 2 1", "placeOf 4", 7);
        Edge.thinks("19: STONE, INN, VIEW together", "put 4 0 1, put 4 1 1, put 4 3 1", "placeOf 4", 11);
        Edge.refuses("19: below 0", "", "placeOf -1", -2);
        Edge.refuses("19: above the END", "", "placeOf 31", -2);
        Edge.refuses("19: above an END that became less", "length 1", "placeOf 2", -2);
        Edge.refuses("19: above 60", "length 60", "placeOf 61", -2);
        Edge.refuses("19: far", "", "placeOf" + Edge.MIN, -2);
        Edge.refuses("19: far", "", "placeOf" + Edge.MAX, -2);
    }
}
