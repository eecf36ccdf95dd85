/** The boundary cases of promises 20 to 25, 27 to 29, 31, 32, 35, 37 and 38: JOURNEYS in thought. */
public final class EdgesOfJourneysTest {
    private static final String MULE = "mule 0 5 3";
    private static final String SIX = Edge.times(6, MULE);
    private static final String[] EACH_CALL = {"minutes", "good", "falls", "missed", "lucky"};

    public static void main(String[] args) {
        whichMule();
        stops();
        minutes();
        after();
        good();
        falls();
        missed();
        roped();
        ropedFromTheGreaterAt();
        meets();
        meetsAtLast();
        last();
        crowd();
        best();
        sure();
        sureByCuts();
        worst();
        lucky();
        Due.end();
    }

    /** It STOPS at every PLACE, for 1 and a minutes. */
    private static String stopsEverywhere(int end, int a) {
        return Edge.join("length " + end, Edge.fill(1, end, 0), "mule 1 2 " + a);
    }

    private static void whichMule() {
        for (String call : EACH_CALL) {
            Edge.refuses("20 to 38: below the first MULE", SIX, call + " -1", -2);
            Edge.refuses("20 to 38: above the last MULE", SIX, call + " 6", -2);
            Edge.refuses("20 to 38: above the only MULE", MULE, call + " 1", -2);
            Edge.refuses("20 to 38: no MULES", "", call + " 0", -2);
            Edge.refuses("20 to 38: far", SIX, call + Edge.MIN, -2);
            Edge.refuses("20 to 38: far", SIX, call + Edge.MAX, -2);
        }
        int[] due = {36, 1, -1, 0, 2};
        for (int i = 0; i < EACH_CALL.length; i++) {
            Edge.thinks("20 to 38: the first MULE", SIX, EACH_CALL[i] + " 0", due[i]);
            Edge.thinks("20 to 38: the last MULE", SIX, EACH_CALL[i] + " 5", due[i]);
        }
    }

    private static void stops() {
        Edge.thinks("20: how many", MULE, "stops 0 -1", 6);
        Edge.thinks("20: the first", MULE, "stops 0 0", 5);
        Edge.thinks("20: the last", MULE, "stops 0 5", 30);
        Edge.refuses("20: no such one", MULE, "stops 0 6", -5);
        Edge.refuses("20: no such one, far", MULE, "stops 0" + Edge.MAX, -5);
        Edge.refuses("20: below NONE", MULE, "stops 0 -2", -2);
        Edge.refuses("20: below NONE, far", MULE, "stops 0" + Edge.MIN, -2);
        String most = stopsEverywhere(60, 0);
        Edge.thinks("20: as many as can be", most, "stops 0 -1", 60);
        Edge.thinks("20: as many as can be, the first", most, "stops 0 0", 1);
        Edge.thinks("20: as many as can be, the last", most, "stops 0 59", 60);
        Edge.refuses("20: as many as can be, no such one", most, "stops 0 60", -5);
        Edge.thinks("20: none", "length 1, mule 0 2 0", "stops 0 -1", 0);
        Edge.refuses("20: none, no such one", "length 1, mule 0 2 0", "stops 0 0", -5);
        Edge.thinks("20: one, at the END", "length 5, " + MULE, "stops 0 0", 5);
        Edge.thinks("20: from the END", MULE + ", stand 0 30 4", "stops 0 -1", 0);
        Edge.refuses("20: from the END", MULE + ", stand 0 30 4", "stops 0 0", -5);
        Edge.thinks("20: from just below the END", MULE + ", stand 0 29 4", "stops 0 0", 30);
        Edge.thinks("20: the last MULE", SIX, "stops 5 -1", 6);
        Edge.refuses("20: above the last MULE", SIX, "stops 6 -1", -2);
        Edge.refuses("20: below the first MULE", SIX, "stops -1 -1", -2);
        Edge.refuses("20: no MULES", "", "stops 0 -1", -2);
        Edge.refuses("20: BAD ahead of STUCK", SIX, "stops 6 99", -2);
        Edge.refuses("20: far", SIX, "stops" + Edge.MIN + " 0", -2);
        Edge.refuses("20: far", SIX, "stops" + Edge.MAX + " 0", -2);
    }

    private static void minutes() {
        Edge.thinks("21: from the END", MULE + ", stand 0 30 4", "minutes 0", 0);
        Edge.thinks("21: one STEP", MULE + ", stand 0 29 0", "minutes 0", 1);
        Edge.thinks("21: one STEP, and a STOP at the END", MULE + ", stand 0 29 4", "minutes 0", 2);
        Edge.thinks("21: one STEP, and a slow STOP at the END", "mule 1 5 9, stand 0 29 4", "minutes 0", 11);
        Edge.thinks("21: as long as can be", stopsEverywhere(60, 9), "minutes 0", 660);
        Edge.thinks("21: STEPS alone", "length 60, put 1 1 1, put 2 1 1, put 3 1 1, mule 4 13 0", "minutes 0", 60);
    }

    private static void after() {
        String slow = "mule 1 2 2";
        int[] due = {0, 1, 2, 2, 2, 2, 3, 4, 4, 4, 4, 5};
        for (int t = 0; t < due.length; t++) {
            Edge.thinks("22: of a STEP or a rest under way", slow, "after 0 " + t, due[t]);
        }
        Edge.thinks("22: the greatest t", slow, "after 0 400", 30);
        Edge.refuses("22: below the least t", slow, "after 0 -1", -2);
        Edge.refuses("22: above the greatest t", slow, "after 0 401", -2);
        Edge.thinks("22: the minute ahead of the END", "mule 0 13 0", "after 0 31", 29);
        Edge.thinks("22: the minute of the END", "mule 0 13 0", "after 0 32", 30);
        Edge.thinks("22: at the END it stays", "mule 0 13 0", "after 0 33", 30);
        Edge.thinks("22: from the END", MULE + ", stand 0 30 4", "after 0 0", 30);
        Edge.thinks("22: from the END", MULE + ", stand 0 30 4", "after 0 400", 30);
        Edge.thinks("22: from AT", MULE + ", stand 0 7 0", "after 0 0", 7);
        Edge.thinks("22: from AT", MULE + ", stand 0 7 4", "after 0 2", 8);
        Edge.thinks("22: the END in 400", stopsEverywhere(58, 5), "after 0 400", 58);
        Edge.thinks("22: the END in 400, one less", stopsEverywhere(58, 5), "after 0 399", 57);
        Edge.thinks("22: the END in 401", stopsEverywhere(51, 6), "after 0 400", 50);
        Edge.thinks("22: far from the END", stopsEverywhere(60, 9), "after 0 400", 37);
        Edge.refuses("22: below the first MULE", SIX, "after -1 0", -2);
        Edge.refuses("22: above the last MULE", SIX, "after 6 0", -2);
        Edge.thinks("22: the last MULE", SIX, "after 5 0", 0);
        Edge.refuses("22: no MULES", "", "after 0 0", -2);
        for (String far : new String[] {Edge.MIN, Edge.MAX}) {
            Edge.refuses("22: far", SIX, "after" + far + " 0", -2);
            Edge.refuses("22: far", SIX, "after 0" + far, -2);
        }
    }

    private static void good() {
        Edge.thinks("23: no CLIFFS, no VIEWS", MULE, "good 0", 1);
        Edge.thinks("23: a VIEW where it is AT", MULE + ", stand 0 7 0, put 7 3 1", "good 0", 1);
        Edge.thinks("23: a VIEW just above AT, no STOP", MULE + ", stand 0 6 0, put 7 3 1", "good 0", 0);
        Edge.thinks("23: a VIEW just above AT, a STOP", MULE + ", stand 0 6 4, put 7 3 1", "good 0", 1);
        Edge.thinks("23: a VIEW below AT", MULE + ", stand 0 8 0, put 7 3 1", "good 0", 1);
        Edge.thinks("23: a VIEW at the END, a STOP", MULE + ", put 30 3 1", "good 0", 1);
        Edge.thinks("23: a VIEW at the END, no STOP", "mule 0 4 0, put 30 3 1", "good 0", 0);
        Edge.thinks("23: a CLIFF where it is AT", MULE + ", stand 0 7 4, put 7 2 1", "good 0", 1);
        Edge.thinks("23: a CLIFF just above AT, a STOP", MULE + ", stand 0 6 4, put 7 2 1", "good 0", 0);
        Edge.thinks("23: a CLIFF just above AT, no STOP", MULE + ", stand 0 6 0, put 7 2 1", "good 0", 1);
        Edge.thinks("23: a CLIFF at the END, a STOP", MULE + ", put 30 2 1", "good 0", 0);
        Edge.thinks("23: all VIEWS, and a CLIFF", MULE + ", put 5 3 1, put 10 2 1", "good 0", 0);
        Edge.thinks("23: no CLIFF, and one VIEW of two", MULE + ", put 5 3 1, put 11 3 1", "good 0", 0);
        Edge.thinks("23: from the END", MULE + ", stand 0 30 4, put 30 2 1, put 29 3 1", "good 0", 1);
    }

    private static void falls() {
        Edge.thinks("24: NONE", MULE, "falls 0", -1);
        Edge.thinks("24: the first of several", MULE + ", put 10 2 1, put 15 2 1, put 30 2 1", "falls 0", 10);
        Edge.thinks("24: not one that it passes", MULE + ", put 9 2 1, put 11 2 1, put 20 2 1", "falls 0", 20);
        Edge.thinks("24: at the END", MULE + ", put 30 2 1", "falls 0", 30);
        Edge.thinks("24: at 60", "length 60, " + MULE + ", put 60 2 1", "falls 0", 60);
        Edge.thinks("24: where it is AT", MULE + ", stand 0 5 0, put 5 2 1", "falls 0", -1);
        Edge.thinks("24: a SHY one", "mule 3 5 0, " + Edge.fill(0, 30, 2), "falls 0", -1);
        Edge.thinks("24: from the END", MULE + ", stand 0 30 4, put 30 2 1", "falls 0", -1);
    }

    private static void missed() {
        Edge.thinks("25: no VIEWS", MULE, "missed 0", 0);
        Edge.thinks("25: one at AT", MULE + ", put 0 3 1", "missed 0", 0);
        Edge.thinks("25: one just above AT", MULE + ", put 1 3 1", "missed 0", 1);
        Edge.thinks("25: one at the END, a STOP", MULE + ", put 30 3 1", "missed 0", 0);
        Edge.thinks("25: one at the END, no STOP", "mule 0 4 0, put 30 3 1", "missed 0", 1);
        Edge.thinks("25: all but four of 60", "length 60, mule 0 13 0, " + Edge.fill(0, 60, 3), "missed 0", 56);
        Edge.thinks("25: all of 12", "length 12, mule 0 13 0, " + Edge.fill(0, 12, 3), "missed 0", 12);
        Edge.thinks("25: from the END", MULE + ", stand 0 30 0, " + Edge.fill(0, 30, 3), "missed 0", 0);
    }

    private static void roped() {
        String two = "length 10, mule 0 5 0, mule 0 2 0";
        Edge.thinks("27: how many PLACES", two, "roped 0 1 0", 6);
        Edge.thinks("27: the first of both", two, "roped 0 1 1", 10);
        Edge.thinks("27: the other way about", two, "roped 1 0 0", 6);
        Edge.refuses("27: below the first what", two, "roped 0 1 -1", -2);
        Edge.refuses("27: above the last what", two, "roped 0 1 2", -2);
        Edge.refuses("27: one twice", two, "roped 0 0 0", -2);
        Edge.refuses("27: one twice", two, "roped 1 1 1", -2);
        Edge.refuses("27: above the last MULE", two, "roped 2 1 0", -2);
        Edge.refuses("27: above the last MULE", two, "roped 0 2 0", -2);
        Edge.refuses("27: below the first MULE", two, "roped -1 1 0", -2);
        Edge.refuses("27: below the first MULE", two, "roped 0 -1 0", -2);
        Edge.refuses("27: no MULES", "", "roped 0 1 0", -2);
        Edge.refuses("27: no MULES, one twice", "", "roped 0 0 0", -2);
        Edge.thinks("27: the last of six", SIX, "roped 0 5 1", 5);
        Edge.thinks("27: the last of six", SIX, "roped 5 4 0", 6);
        Edge.refuses("27: above the last of six", SIX, "roped 0 6 0", -2);
        for (String far : new String[] {Edge.MIN, Edge.MAX}) {
            Edge.refuses("27: far", two, "roped" + far + " 1 0", -2);
            Edge.refuses("27: far", two, "roped 0" + far + " 0", -2);
            Edge.refuses("27: far", two, "roped 0 1" + far, -2);
        }
    }

    private static void ropedFromTheGreaterAt() {
        String apart = "length 10, mule 0 5 0, mule 0 2 0, stand 0 0 4, stand 1 5 1";
        Edge.thinks("27: from the greater AT, each with its COUNT", apart, "roped 0 1 1", 6);
        Edge.thinks("27: from the greater AT, each with its COUNT", apart, "roped 0 1 0", 3);
        Edge.thinks("27: one at the END", "length 10, mule 0 2 0, mule 0 2 0, stand 1 10 0", "roped 0 1 0", 0);
        Edge.thinks("27: one at the END", "length 10, mule 0 2 0, mule 0 2 0, stand 1 10 0", "roped 0 1 1", -1);
        Edge.thinks("27: one just below the END", "length 10, mule 0 2 0, mule 0 2 0, stand 0 0 1, stand 1 9 1", "roped 0 1 1", 10);
        Edge.thinks("27: never both", "length 10, mule 0 2 0, mule 0 2 0, stand 1 0 1", "roped 0 1 1", -1);
        Edge.thinks("27: never both, everywhere one", "length 10, mule 0 2 0, mule 0 2 0, stand 1 0 1", "roped 0 1 0", 10);
        Edge.thinks("27: none STOPS", "length 1, mule 0 2 0, mule 0 2 0", "roped 0 1 0", 0);
        Edge.thinks("27: INNS below the greater AT double nothing",
            "length 12, put 1 1 1, mule 4 4 0, mule 0 13 0, stand 1 2 0", "roped 0 1 0", 2);
    }

    private static void meets() {
        String two = "mule 0 13 0, mule 0 2 0, stand 1 3 0";
        Edge.thinks("28: at 0, both AT one PLACE", MULE + ", " + MULE, "meets 0 1", 0);
        Edge.thinks("28: at 0, both at the END", "mule 0 2 0, mule 0 5 0, stand 0 30 0, stand 1 30 4", "meets 0 1", 0);
        Edge.thinks("28: a PLACE ahead, at rest", "mule 0 13 0, mule 0 2 0, stand 1 1 1", "meets 0 1", 2);
        Edge.thinks("28: while the other rests", two, "meets 0 1", 9);
        Edge.thinks("28: the other way about", two, "meets 1 0", 9);
        Edge.refuses("28: one twice", two, "meets 0 0", -2);
        Edge.refuses("28: above the last MULE", two, "meets 0 2", -2);
        Edge.refuses("28: above the last MULE", two, "meets 2 0", -2);
        Edge.refuses("28: below the first MULE", two, "meets -1 0", -2);
        Edge.refuses("28: below the first MULE", two, "meets 0 -1", -2);
        Edge.refuses("28: no MULES", "", "meets 0 1", -2);
        Edge.refuses("28: no MULES, one twice", "", "meets 0 0", -2);
        Edge.thinks("28: the last of six", SIX, "meets 4 5", 0);
        for (String far : new String[] {Edge.MIN, Edge.MAX}) {
            Edge.refuses("28: far", two, "meets" + far + " 1", -2);
            Edge.refuses("28: far", two, "meets 0" + far, -2);
        }
    }

    private static void meetsAtLast() {
        String other = ", mule 2 2 0, stand 1 ";
        Edge.thinks("28: only at the END", "length 12, mule 0 13 0, mule 0 13 0, stand 1 1 0", "meets 0 1", 12);
        Edge.thinks("28: the other is at the END", "length 1, mule 0 2 0, mule 0 2 0, stand 1 1 0", "meets 0 1", 1);
        Edge.thinks("28: minute 400", stopsEverywhere(58, 5) + other + "58 0", "meets 0 1", 400);
        Edge.thinks("28: minute 401 is too late", stopsEverywhere(51, 6) + other + "51 0", "meets 0 1", -1);
        Edge.thinks("28: far too late", stopsEverywhere(60, 9) + other + "60 0", "meets 1 0", -1);
        Edge.thinks("28: far from the END, but together", stopsEverywhere(60, 9) + other + "0 0", "meets 0 1", 0);
    }

    private static void last() {
        Edge.refuses("29: no MULES", "", "last", -5);
        Edge.thinks("29: one", MULE, "last", 0);
        Edge.thinks("29: one, at the END", MULE + ", stand 0 30 0", "last", 0);
        Edge.thinks("29: of several the first", SIX, "last", 0);
        Edge.thinks("29: of two the first", "mule 0 9 0, mule 0 2 0, mule 0 2 0", "last", 1);
        Edge.thinks("29: the last of six", Edge.times(5, MULE) + ", mule 0 4 0", "last", 5);
        Edge.thinks("29: a STOP at the END counts", "length 4, mule 0 5 0, mule 0 4 0", "last", 1);
        Edge.thinks("29: all at the END", MULE + ", " + MULE + ", stand 0 30 0, stand 1 30 0", "last", 0);
    }

    private static void crowd() {
        Edge.thinks("31: at 0", SIX, "crowd 0", 0);
        Edge.thinks("31: all six", SIX, "crowd 5", 6);
        Edge.thinks("31: all six, at the END", SIX, "crowd 30", 6);
        Edge.thinks("31: all six, at 60", "length 60, " + SIX, "crowd 60", 6);
        Edge.thinks("31: none", SIX, "crowd 4", 0);
        Edge.thinks("31: one is AT", MULE + ", stand 0 5 0", "crowd 5", 0);
        Edge.thinks("31: no MULES", "", "crowd 30", 0);
        Edge.refuses("31: below 0", SIX, "crowd -1", -2);
        Edge.refuses("31: above the END", SIX, "crowd 31", -2);
        Edge.refuses("31: above 60", "length 60, " + SIX, "crowd 61", -2);
        Edge.refuses("31: far", SIX, "crowd" + Edge.MIN, -2);
        Edge.refuses("31: far", SIX, "crowd" + Edge.MAX, -2);
    }

    private static void best() {
        Edge.thinks("32: the first", "mule 0 2 0", "best 0", 2);
        Edge.thinks("32: the tenth of 15", "mule 0 2 0", "best 9", 20);
        Edge.thinks("32: the tenth of ten", "length 20, mule 0 2 0", "best 9", 20);
        Edge.refuses("32: there are not so many", "length 18, mule 0 2 0", "best 9", -5);
        Edge.thinks("32: the ninth of nine", "length 18, mule 0 2 0", "best 8", 18);
        Edge.refuses("32: below the first i", "mule 0 2 0", "best -1", -2);
        Edge.refuses("32: above the last i", "mule 0 2 0", "best 10", -2);
        Edge.refuses("32: far", "mule 0 2 0", "best" + Edge.MIN, -2);
        Edge.refuses("32: far", "mule 0 2 0", "best" + Edge.MAX, -2);
        Edge.refuses("32: no MULES", "", "best 0", -5);
        Edge.refuses("32: BAD ahead of STUCK", "", "best 10", -2);
        Edge.refuses("32: no STOPS", "length 1, mule 0 2 0", "best 0", -5);
        Edge.thinks("32: the one with most", "mule 0 2 0, mule 0 5 0", "best 0", 10);
        Edge.thinks("32: of several the first", "mule 0 2 0, mule 0 5 0", "best 1", 20);
        Edge.thinks("32: then those with fewer", "mule 0 2 0, mule 0 5 0", "best 3", 2);
        Edge.thinks("32: all six at 60", "length 60, mule 0 2 0, mule 0 3 0, mule 0 4 0, mule 0 5 0, mule 0 6 0, mule 0 12 0",
            "best 0", 60);
    }

    private static void sure() {
        String one = "length 1, put 1 2 1, mule 0 2 0";
        Edge.thinks("35: the least f", one, "sure 0 0", 1000000);
        Edge.thinks("35: f 1", one, "sure 0 1", 999000);
        Edge.thinks("35: f 999", one, "sure 0 999", 1000);
        Edge.thinks("35: the greatest f", one, "sure 0 1000", 0);
        Edge.refuses("35: below the least f", one, "sure 0 -1", -2);
        Edge.refuses("35: above the greatest f", one, "sure 0 1001", -2);
        Edge.thinks("35: it STOPS in any case", one + ", stand 0 0 1", "sure 0 500", 0);
        Edge.thinks("35: no CLIFFS", "length 60, mule 0 13 0", "sure 0 333", 1000000);
        Edge.thinks("35: CLIFFS at all PLACES", "length 60, mule 0 13 0, " + Edge.fill(0, 60, 2), "sure 0 0", 0);
        Edge.thinks("35: CLIFFS where it is AT and below", MULE + ", stand 0 5 4, " + Edge.fill(0, 5, 2), "sure 0 500", 1000000);
        Edge.thinks("35: from the END", MULE + ", stand 0 30 4, put 30 2 1", "sure 0 1000", 1000000);
        Edge.refuses("35: below the first MULE", SIX, "sure -1 0", -2);
        Edge.refuses("35: above the last MULE", SIX, "sure 6 0", -2);
        Edge.thinks("35: the last MULE", SIX, "sure 5 0", 1000000);
        Edge.refuses("35: no MULES", "", "sure 0 0", -2);
        for (int kind = 0; kind < 6; kind++) {
            String mule = "length 2, put 1 0 1, put 1 1 1, put 2 2 1, mule " + kind + " 4 9";
            Edge.thinks("35: of KIND " + kind + " as of KIND MULE", mule, "sure 0 0", 1000000);
            Edge.thinks("35: of KIND " + kind + " as of KIND MULE", mule, "sure 0 100", 810000);
        }
        for (String far : new String[] {Edge.MIN, Edge.MAX}) {
            Edge.refuses("35: far", SIX, "sure" + far + " 0", -2);
            Edge.refuses("35: far", SIX, "sure 0" + far, -2);
        }
    }

    /** 1,000,000, then 333,000, then 110,889, then 36,926.037 and 12,296.358: each time cut. */
    private static void sureByCuts() {
        Edge.thinks("35: cut at the third STEP", "length 3, put 3 2 1, mule 0 6 0", "sure 0 333", 1000000 - 36926);
        Edge.thinks("35: cut at the fourth STEP", "length 4, put 4 2 1, mule 0 8 0", "sure 0 333", 1000000 - 12296);
        Edge.thinks("35: too few to be any", "length 6, put 6 2 1, mule 0 12 0", "sure 0 1", 1000000);
        Edge.thinks("35: just one", "length 2, put 2 2 1, mule 0 4 0", "sure 0 1", 999999);
        String doubled = "length 60, put 1 1 1, put 2 1 1, put 3 1 1, mule 4 13 0, goes 0 3, put 60 2 1, stand 0 59 ";
        Edge.thinks("35: NUMBER 64, COUNT 62", doubled + "62", "sure 0 250", 750000);
        Edge.thinks("35: NUMBER 64, COUNT 63", doubled + "63", "sure 0 250", 0);
        Edge.thinks("35: NUMBER 64, COUNT 61", doubled + "61", "sure 0 250", 1000000);
        String shy = "length 3, put 0 2 1, mule 3 2 0, " + Edge.times(90, "turn 0");
        Edge.thinks("35: COUNT far above NUMBER", shy + ", put 1 2 1", "sure 0 0", 0);
        Edge.thinks("35: COUNT far above NUMBER", shy + ", put 2 2 1", "sure 0 0", 1000000);
    }

    private static void worst() {
        Edge.refuses("37: no MULES", "", "worst", -5);
        Edge.thinks("37: one, no CLIFFS", MULE, "worst", 0);
        Edge.thinks("37: of several the first, no CLIFFS", SIX, "worst", 0);
        Edge.thinks("37: of several the first", "put 10 2 1, mule 0 3 0, mule 0 5 0, mule 0 2 0", "worst", 1);
        Edge.thinks("37: most of them", "put 10 2 1, put 12 2 1, mule 0 3 0, mule 0 5 0, mule 0 2 0", "worst", 2);
        Edge.thinks("37: the last of six", Edge.times(5, MULE) + ", mule 0 4 0, put 4 2 1", "worst", 5);
        Edge.thinks("37: at the END", "put 30 2 1, mule 0 4 0, mule 0 5 0", "worst", 1);
        Edge.thinks("37: where it is AT isn't", "put 5 2 1, mule 0 5 0, stand 0 5 0, mule 0 5 0", "worst", 1);
    }

    private static void lucky() {
        Edge.thinks("38: the least", MULE, "lucky 0", 2);
        Edge.thinks("38: 3", MULE + ", put 2 2 1", "lucky 0", 3);
        Edge.thinks("38: the greatest", MULE + ", put 13 3 1", "lucky 0", 13);
        Edge.thinks("38: NONE", MULE + ", put 14 3 1, put 28 2 1", "lucky 0", -1);
        Edge.thinks("38: NONE, 13 too", MULE + ", put 13 3 1, put 26 2 1", "lucky 0", -1);
        Edge.thinks("38: not 14", "length 17, " + MULE + ", put 17 3 1", "lucky 0", -1);
        Edge.thinks("38: COUNT 0", MULE + ", stand 0 0 4, put 1 2 1", "lucky 0", 2);
        Edge.thinks("38: COUNT 0", MULE + ", stand 0 0 1, put 1 3 1", "lucky 0", -1);
        Edge.thinks("38: from the END", MULE + ", stand 0 30 0, put 30 2 1", "lucky 0", 2);
        Edge.thinks("38: a VIEW at the END", MULE + ", stand 0 25 0, put 30 3 1", "lucky 0", 5);
        Edge.thinks("38: of its KIND", "put 2 1 1, put 6 3 1, put 4 2 1, mule 4 9 0", "lucky 0", 2);
        Edge.thinks("38: a SHY one", "mule 3 9 0, " + Edge.fill(1, 12, 2) + ", put 13 3 1", "lucky 0", 2);
    }
}
