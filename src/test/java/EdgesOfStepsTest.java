/** The boundary cases of the words that all promises use: a STEP, a TURN, a STOP, by KINDS. */
public final class EdgesOfStepsTest {
    private static final int STONE = 0;
    private static final int INN = 1;
    private static final int CLIFF = 2;

    public static void main(String[] args) {
        stepsAndCount();
        stones();
        shyOnes();
        cliffsForOthers();
        sureOnes();
        innsForOthers();
        doublers();
        rests();
        turns();
        turnsOfKinds();
        Due.end();
    }

    /** One STEP from PLACE 0 with a COUNT; what is due then: COUNT, RESTED. */
    private static void step(String sentence, String before, int kind, int number, int count, int dueCount, int dueRested) {
        String mule = "mule " + kind + " " + number + " 9, stand 0 0 " + count;
        Edge.does("2: " + sentence, Edge.join(before, mule), "goes 0 1", 1,
            "muleOf 0 2 = 1, muleOf 0 3 = " + dueCount + ", muleOf 0 4 = " + dueRested);
    }

    private static String at(int place, int what) {
        return Edge.fill(place, place, what);
    }

    private static void stepsAndCount() {
        step("COUNT 1 more", "", 0, 5, 0, 1, 0);
        step("COUNT just below NUMBER", "", 0, 5, 3, 4, 0);
        step("COUNT is NUMBER", "", 0, 5, 4, 0, 1);
        step("the least NUMBER, below it", "", 0, 2, 0, 1, 0);
        step("the least NUMBER", "", 0, 2, 1, 0, 1);
        step("the greatest NUMBER, below it", "", 0, 13, 11, 12, 0);
        step("the greatest NUMBER", "", 0, 13, 12, 0, 1);
        Edge.thinks("2: every ninth STEP", "length 60, mule 0 9 0", "stops 0 -1", 6);
        Edge.thinks("2: every ninth STEP, the last", "length 60, mule 0 9 0", "stops 0 5", 54);
        Edge.does("2: it goes on behind a STOP", "mule 0 2 0", "goes 0 3", 3, "muleOf 0 3 = 1, muleOf 0 4 = 1");
    }

    private static void stones() {
        int[] heed = {1, 1, 0, 1, 1, 0};
        for (int kind = 0; kind < 6; kind++) {
            int rest = kind == 1 || kind == 3 ? 10 : 1;
            String which = "of KIND " + kind + ", a STONE";
            step(which, at(1, STONE), kind, 5, 0, 1 + heed[kind], 0);
            step(which + " just below NUMBER", at(1, STONE), kind, 5, 2, 3 + heed[kind], 0);
            step(which + " by which COUNT is NUMBER", at(1, STONE), kind, 5, 3, heed[kind] == 1 ? 0 : 4, heed[kind] * rest);
            step(which + " by which COUNT is above", at(1, STONE), kind, 5, 4, 0, rest);
            step(which + " where it was AT", at(0, STONE), kind, 5, 0, 1, 0);
            step(which + " further on", at(2, STONE), kind, 5, 0, 1, 0);
        }
        String all = Edge.join("length 60", Edge.fill(0, 60, STONE));
        Edge.thinks("2: STONES at all PLACES, NUMBER 2", all + ", mule 0 2 0", "stops 0 -1", 60);
        Edge.thinks("2: STONES at all PLACES, NUMBER 3", all + ", mule 0 3 0", "stops 0 -1", 30);
        Edge.thinks("2: STONES at all PLACES, a LOOSE one", all + ", mule 2 2 0", "stops 0 -1", 30);
        Edge.thinks("2: STONES at all PLACES, a SURE one", all + ", mule 5 2 0", "stops 0 -1", 30);
    }

    private static void shyOnes() {
        step("SHY, at a CLIFF COUNT stays", at(1, CLIFF), 3, 5, 4, 5, 0);
        step("SHY, at a CLIFF with a STONE", Edge.join(at(1, CLIFF), at(1, STONE)), 3, 5, 4, 6, 0);
        step("SHY, at a CLIFF below NUMBER", at(1, CLIFF), 3, 5, 3, 4, 0);
        step("SHY, where a CLIFF is ahead", at(2, CLIFF), 3, 5, 4, 0, 10);
        step("SHY, where a CLIFF is behind", at(0, CLIFF), 3, 5, 4, 0, 10);
        String cliffs = Edge.fill(2, 4, CLIFF) + ", mule 3 2 0";
        Edge.does("2: SHY, at several CLIFFS", cliffs, "goes 0 4", 4, "muleOf 0 3 = 4, muleOf 0 4 = 0, status 7 = 0");
        Edge.does("2: SHY, at the next PLACE that is none", cliffs, "goes 0 5", 5, "muleOf 0 3 = 0, muleOf 0 4 = 1");
        Edge.thinks("2: SHY, at the next PLACE that is none", cliffs, "stops 0 0", 5);
        String end = "length 2, put 2 2 1, mule 3 2 0";
        Edge.does("2: SHY, a CLIFF at the END", end, "goes 0 60", 2, "muleOf 0 3 = 2, muleOf 0 4 = 0");
        Edge.thinks("2: SHY, a CLIFF at the END", end, "stops 0 -1", 0);
        String all = Edge.join("length 60", Edge.fill(0, 60, CLIFF), "mule 3 2 9");
        Edge.thinks("2: SHY, CLIFFS at all PLACES", all, "stops 0 -1", 0);
        Edge.does("2: SHY, CLIFFS at all PLACES", all, "goes 0 60", 60, "muleOf 0 3 = 60, muleOf 0 4 = 0, status 7 = 0");
    }

    private static void cliffsForOthers() {
        for (int kind : new int[] {0, 1, 2, 4, 5}) {
            String mule = "mule " + kind + " 2 0, stand 0 0 1";
            Edge.does("2: of KIND " + kind + ", it STOPS at a CLIFF", Edge.join(at(1, CLIFF), mule), "goes 0 1", 1,
                "muleOf 0 3 = 0, muleOf 0 4 = 1, status 7 = 1");
        }
    }

    private static void sureOnes() {
        step("SURE, at an INN", at(1, INN), 5, 13, 0, 0, 1);
        step("SURE, at an INN, COUNT is NUMBER: one STOP", at(1, INN), 5, 5, 4, 0, 1);
        step("SURE, an INN where it was AT", at(0, INN), 5, 13, 0, 1, 0);
        step("SURE, an INN further on", at(2, INN), 5, 13, 0, 1, 0);
        step("SURE, where no INN is, by COUNT", "", 5, 5, 4, 0, 1);
        Edge.thinks("2: SURE, an INN at the END", "length 3, put 3 1 1, mule 5 13 0", "stops 0 0", 3);
        Edge.thinks("2: SURE, an INN at a CLIFF", "put 3 1 1, put 3 2 1, mule 5 13 0", "falls 0", 3);
        String all = Edge.join("length 60", Edge.fill(0, 60, INN), "mule 5 13 0");
        Edge.thinks("2: SURE, INNS at all PLACES", all, "stops 0 -1", 60);
    }

    private static void innsForOthers() {
        for (int kind = 0; kind < 5; kind++) {
            step("of KIND " + kind + ", an INN STOPS none", at(1, INN), kind, 13, 0, 1, 0);
        }
        for (int kind : new int[] {0, 1, 2, 3, 5}) {
            Edge.does("2: of KIND " + kind + ", an INN doubles nothing", Edge.join(at(1, INN), "mule " + kind + " 5 0"),
                "goes 0 1", 1, "muleOf 0 1 = 5");
        }
    }

    private static void doublers() {
        String inn = at(1, INN);
        Edge.does("2: DOUBLER", inn + ", mule 4 2 0", "goes 0 1", 1, "muleOf 0 1 = 4, muleOf 0 3 = 1, muleOf 0 4 = 0");
        Edge.does("2: DOUBLER, behind its STOP", inn + ", mule 4 2 0, stand 0 0 1", "goes 0 1", 1,
            "muleOf 0 1 = 4, muleOf 0 3 = 0, muleOf 0 4 = 1");
        Edge.does("2: DOUBLER, an INN where it was AT", at(0, INN) + ", mule 4 2 0", "goes 0 1", 1, "muleOf 0 1 = 2");
        Edge.does("2: DOUBLER, an INN at the END", "length 1, " + inn + ", mule 4 13 0", "goes 0 1", 1, "muleOf 0 1 = 26");
        String six = Edge.fill(1, 6, INN) + ", mule 4 2 0";
        Edge.does("2: DOUBLER, 32 is below 64", six, "goes 0 4", 4, "muleOf 0 1 = 32");
        Edge.does("2: DOUBLER, 64 just so", six, "goes 0 5", 5, "muleOf 0 1 = 64");
        Edge.does("2: DOUBLER, 64 at most", six, "goes 0 6", 6, "muleOf 0 1 = 64");
        String three = Edge.fill(1, 4, INN) + ", mule 4 13 0";
        Edge.does("2: DOUBLER, 52", three, "goes 0 2", 2, "muleOf 0 1 = 52");
        Edge.does("2: DOUBLER, 64 instead of 104", three, "goes 0 3", 3, "muleOf 0 1 = 64");
        Edge.does("2: DOUBLER, still 64", three, "goes 0 4", 4, "muleOf 0 1 = 64");
        String late = Edge.fill(1, 3, INN) + ", mule 4 13 0, goes 0 3, stand 0 0 ";
        Edge.does("2: DOUBLER, COUNT just below 64", "length 60, " + late + "3", "goes 0 60", 60, "muleOf 0 3 = 63");
        Edge.does("2: DOUBLER, COUNT is 64", "length 60, " + late + "4", "goes 0 60", 60, "muleOf 0 3 = 0, muleOf 0 4 = 1");
        Edge.thinks("2: DOUBLER, in thought NUMBER stays", six, "stops 0 -1", 0);
        Edge.thinks("2: DOUBLER, in thought too it is doubled", "put 2 1 1, mule 4 2 0", "stops 0 1", 6);
    }

    private static void rests() {
        int[] due = {1, 10, 1, 10, 1, 1};
        for (int kind = 0; kind < 6; kind++) {
            String which = "2: of KIND " + kind + ", a STOP";
            String mule = "length 4, mule " + kind + " 2 ";
            Edge.does(which + " by a 9", mule + "9", "goes 0 4", 4, "muleOf 0 4 = " + 2 * due[kind]);
            Edge.does(which + " by a 0", mule + "0", "goes 0 4", 4, "muleOf 0 4 = 2");
            Edge.thinks(which + " in thought, by a 9", mule + "9", "minutes 0", 4 + 2 * due[kind]);
            Edge.thinks(which + " in thought, by a 0", mule + "0", "minutes 0", 6);
        }
    }

    /** One TURN at PLACE 4 with a COUNT, of NUMBER 5; what is due: whether it STOPS, COUNT, RESTED. */
    private static void turn(String sentence, String before, int kind, int count, int stops, int dueCount, int dueRested) {
        String mule = "mule " + kind + " 5 9, stand 0 4 " + count;
        Edge.does("2: " + sentence, Edge.join(before, mule), "turn 0", stops,
            "muleOf 0 1 = 5, muleOf 0 2 = 4, muleOf 0 3 = " + dueCount + ", muleOf 0 4 = " + dueRested);
    }

    private static void turns() {
        turn("a TURN, COUNT 1 more", "", 0, 0, 0, 1, 0);
        turn("a TURN, just below NUMBER", "", 0, 3, 0, 4, 0);
        turn("a TURN, COUNT is NUMBER", "", 0, 4, 1, 0, 1);
        turn("a TURN at a STONE", at(4, STONE), 0, 3, 0, 4, 0);
        Edge.does("2: a TURN at 0", "mule 0 2 0", "turn 0", 0, "muleOf 0 2 = 0, muleOf 0 3 = 1");
        Edge.does("2: a TURN just below the END", "mule 0 2 0, stand 0 29 1", "turn 0", 1, "muleOf 0 2 = 29, muleOf 0 3 = 0");
        Edge.refuses("2: no TURN at the END", "mule 0 2 0, stand 0 30 1", "turn 0", -5);
        Edge.does("2: a TURN at a CLIFF", at(4, CLIFF) + ", mule 0 5 0, stand 0 4 4", "turn 0", 1, "status 7 = 1");
        Edge.does("2: a TURN at a CLIFF, below NUMBER", at(4, CLIFF) + ", mule 0 5 0, stand 0 4 3", "turn 0", 0, "status 7 = 0");
    }

    private static void turnsOfKinds() {
        int[] rests = {1, 10, 1, 10, 1, 1};
        for (int kind = 0; kind < 6; kind++) {
            turn("a TURN of KIND " + kind + ", just below NUMBER", "", kind, 3, 0, 4, 0);
            turn("a TURN of KIND " + kind + ", COUNT is NUMBER", "", kind, 4, 1, 0, rests[kind]);
            turn("a TURN of KIND " + kind + " at an INN", at(4, INN), kind, 0, 0, 1, 0);
            turn("a TURN of KIND " + kind + " at an INN, COUNT is NUMBER", at(4, INN), kind, 4, 1, 0, rests[kind]);
        }
        turn("a TURN, SHY not at a CLIFF", at(4, CLIFF), 3, 4, 0, 5, 0);
        String shy = at(4, CLIFF) + ", mule 3 5 9, stand 0 4 4, turn 0, turn 0";
        Edge.does("2: a TURN, SHY not at a CLIFF again", shy, "turn 0", 0, "muleOf 0 3 = 7, muleOf 0 4 = 0, status 7 = 0");
        Edge.does("2: a TURN, SHY, at a CLIFF no more", shy + ", put 4 2 0", "turn 0", 1, "muleOf 0 3 = 0, muleOf 0 4 = 10");
        Edge.does("2: SHY, a STEP behind TURNS at a CLIFF", shy, "goes 0 1", 5, "muleOf 0 3 = 0, muleOf 0 4 = 10");
    }
}
