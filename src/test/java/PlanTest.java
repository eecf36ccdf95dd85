/** Promises 26, 33, 34: the fewest turns, the fewest stones, numbers by stops seen. */
public final class PlanTest {
    private static NinthStep x;

    public static void main(String[] args) {
        turnsAreLate();
        turnsAtTheStart();
        turnsAreThreeAtMost();
        turnsOfKinds();
        turnsRefuse();
        stonesNone();
        stonesOne();
        stonesTwo();
        stonesOfSeveral();
        numbers();
        numbersRefuse();
        Due.end();
    }

    private static void turnsAre(String which, int... due) {
        int all = 0;
        for (int p = 0; p < due.length; p++) {
            Due.is("26: " + which + " at " + p, x.turns(0, p), due[p]);
            all += due[p];
        }
        Due.is("26: " + which, x.turns(0, -1), all);
    }

    private static void noTurnsAre(String which, int end) {
        for (int p = -1; p <= end; p++) {
            Due.is("26: " + which + " at " + p, x.turns(0, p), -1);
        }
    }

    private static void turnsAreLate() {
        x = Due.made("length 3; cliff 2; mule 0 2 0");
        turnsAre("fewer ahead of more", 0, 1, 0, 0);
        x = Due.made("length 4; view 2; view 4; mule 0 4 0");
        turnsAre("two views", 0, 0, 2, 2, 0);
        x = Due.made("length 8; view 4; mule 0 4 0");
        turnsAre("none needed", 0, 0, 0, 0, 0, 0, 0, 0, 0);
    }

    private static void turnsAtTheStart() {
        x = Due.made("length 2; cliff 0; cliff 1; mule 0 2 0 count 1");
        noTurnsAre("no stop at the first cliff either", 2);
        x.put(0, 2, false);
        turnsAre("a stop at the start", 1, 0, 0);
        x = Due.made("length 5; view 1; view 3; view 5; mule 0 2 0 at 3");
        turnsAre("only views above, and none below", 0, 0, 0, 0, 0, 0);
        x.stand(0, 4, 0);
        turnsAre("a view at the end", 0, 0, 0, 0, 1, 0);
        x.stand(0, 5, 0);
        turnsAre("from the end", 0, 0, 0, 0, 0, 0);
    }

    private static void turnsAreThreeAtMost() {
        x = Due.made("length 1; view 1; mule 0 4 0");
        turnsAre("three", 3, 0);
        x.teach(0, 5);
        noTurnsAre("four", 1);
        x = Due.made("length 2; view 2; mule 0 8 0");
        turnsAre("three twice", 3, 3, 0);
    }

    private static void turnsOfKinds() {
        x = Due.made("length 4; cliff 0; cliff 1; view 3; mule 3 3 0");
        turnsAre("a shy one by itself", 0, 0, 0, 0, 0);
        x.put(2, 2, true);
        x.teach(0, 6);
        turnsAre("a shy one turns at cliffs", 0, 0, 0, 3, 0);
        x.put(3, 3, false);
        x.put(4, 3, true);
        turnsAre("a shy one waits", 0, 0, 0, 2, 0);
        x = Due.made("length 6; inn 2; view 4; mule 5 9 0");
        turnsAre("an inn stops no sure one that turns", 0, 0, 1, 3, 3, 0, 0);
    }

    private static void turnsRefuse() {
        x = Due.made("mule 0 2 0");
        Due.is("26: no mule", x.turns(1, -1), -2);
        Due.is("26: no mule", x.turns(-1, -1), -2);
        Due.is("26: -2", x.turns(0, -2), -2);
        Due.is("26: 31", x.turns(0, 31), -2);
        x.put(1, 3, true);
        x.teach(0, 13);
        Due.is("26: none", x.turns(0, -1), -1);
        Due.is("26: NONE is not refused", x.status(12), 4);
    }

    private static void stonesAre(String which, int many, int first, int second) {
        Due.is("33: " + which, x.stones(-1), many);
        Due.is("33: " + which + ", the first", x.stones(0), first);
        Due.is("33: " + which + ", the second", x.stones(1), second);
    }

    private static void stonesNone() {
        x = new NinthStep();
        stonesAre("no mules", 0, -5, -5);
        Due.is("33: -2", x.stones(-2), -2);
        Due.is("33: 2", x.stones(2), -2);
        Due.is("33: refused", x.status(12) * 10 + x.status(15), 22);
        x = Due.made("length 4; stone 1; cliff 2; mule 0 3 0");
        stonesAre("none do", -1, -1, -1);
        Due.is("33: NONE is not refused", x.status(12) + x.status(15), 0);
        x = Due.made("length 5; cliff 3; mule 2 3 0");
        stonesAre("a loose one heeds none", -1, -1, -1);
        x = Due.made("length 5; inn 3; cliff 3; mule 5 9 0");
        stonesAre("nor a sure one", -1, -1, -1);
        x = Due.made("length 5; cliff 3; mule 3 3 0");
        stonesAre("a shy one needs none", 0, -5, -5);
    }

    private static void stonesOne() {
        x = Due.made("length 5; cliff 3; mule 0 3 0");
        stonesAre("one", 1, 1, -5);
        x.put(2, 2, true);
        stonesAre("none does, as it stops at 2 or 3", -1, -1, -1);
        x.put(2, 2, false);
        x.stand(0, 1, 1);
        stonesAre("the first one ahead of it", 1, 2, -5);
        x = Due.made("length 60; cliff 60; mule 0 12 0");
        stonesAre("far", 1, 1, -5);
    }

    private static void stonesTwo() {
        x = Due.made("length 5; cliff 3; cliff 4; mule 0 4 0");
        stonesAre("two", 2, 1, 2);
        x.put(1, 0, true);
        stonesAre("there is one already", 1, 2, -5);
    }

    private static void stonesOfSeveral() {
        x = Due.made("length 20; cliff 3; cliff 13; mule 0 13 0; mule 0 3 0 at 10");
        stonesAre("one for both", 1, 11, -5);
        x.put(12, 2, true);
        stonesAre("one can't be helped", -1, -1, -1);
        x = Due.made("length 20; cliff 3; cliff 13; mule 0 3 0; mule 0 3 0 at 10; mule 4 3 0 at 14");
        stonesAre("one each", 2, 1, 11);
    }

    private static void seen(int... places) {
        x.row(0, 3, places.length);
        for (int i = 0; i < places.length; i++) {
            x.set(0, i, places[i]);
        }
    }

    private static void numbersAre(String which, int n, int pairs, int bits) {
        Due.is("34: " + which, x.numbers(0, n, 0), pairs);
        Due.is("34: bits of " + which, x.numbers(0, n, 1), bits);
    }

    private static void numbers() {
        x = new NinthStep();
        seen(4, 9, 14, 20);
        numbersAre("one seen", 1, 10, 16368);
        numbersAre("two seen", 2, 1, 32);
        numbersAre("three seen", 3, 1, 32);
        numbersAre("four seen", 4, 0, 0);
        seen(1, 2);
        numbersAre("at the first step", 1, 12, 16380);
        numbersAre("at each step", 2, 0, 0);
        x.put(2, 0, true);
        numbersAre("by a stone", 2, 1, 4);
        seen(30);
        numbersAre("none stops so late", 1, 0, 0);
    }

    private static void numbersRefuse() {
        x = new NinthStep();
        x.mule(0, 2, 0);
        seen(30, 31);
        x.show(1, 0);
        Due.is("34: no shelf", x.numbers(8, 1, 0), -2);
        Due.is("34: n 0 of a mule", x.numbers(1, 0, 0), -2);
        Due.is("34: n 41", x.numbers(0, 41, 0), -2);
        Due.is("34: what 2 of nothing", x.numbers(2, 1, 2), -2);
        Due.is("34: what -1", x.numbers(0, 1, -1), -2);
        Due.is("34: a mule", x.numbers(1, 1, 0), -3);
        Due.is("34: nothing", x.numbers(2, 1, 0), -4);
        Due.is("34: fewer elements", x.numbers(0, 3, 0), -2);
        Due.is("34: above the end", x.numbers(0, 2, 0), -2);
        seen(0, 5, 5, 4);
        Due.is("34: place 0", x.numbers(0, 1, 0), -2);
        seen(5, 5);
        Due.is("34: not above", x.numbers(0, 2, 0), -2);
        seen(5, 4);
        Due.is("34: below", x.numbers(0, 2, 0), -2);
        seen(5);
        x.set(0, 0, 5 + (1L << 32));
        Due.is("34: far above", x.numbers(0, 1, 0), -2);
    }
}
