/** Promises 20 to 25, 27 to 32, 35 to 38: what comes of journeys, in thought. */
public final class JourneyTest {
    private static final String KINDS = "length 12; stone 2; inn 5; cliff 3; cliff 6;"
        + "mule 0 3 9; mule 1 3 2; mule 2 3 9; mule 3 3 1 count 2; mule 4 3 9; mule 5 3 9";
    private static final String VIEWS = "length 12; view 4; view 8; cliff 6;"
        + "mule 0 4 0; mule 0 3 0; mule 0 2 0; mule 0 5 0; mule 0 13 0 at 8; mule 5 4 0";

    private static NinthStep x;

    public static void main(String[] args) {
        stops();
        minutes();
        after();
        goodFallsMissed();
        roped();
        meets();
        last();
        train();
        trainRefuses();
        crowdAndBest();
        sure();
        judge();
        worst();
        lucky();
        nothingIsChanged();
        Due.end();
    }

    private static void stops() {
        x = Due.made(KINDS);
        int[][] due = {{2, 5, 8, 11}, {2, 5, 8, 11}, {3, 6, 9, 12}, {1, 4, 7, 10}, {2, 5, 11}, {3, 5, 8, 11}};
        for (int m = 0; m < 6; m++) {
            Due.is("20: stops of " + m, x.stops(m, -1), due[m].length);
            for (int i = 0; i < due[m].length; i++) {
                Due.is("20: stop " + i + " of " + m, x.stops(m, i), due[m][i]);
            }
            Due.is("20: no more of " + m, x.stops(m, due[m].length), -5);
        }
        Due.is("20: far", x.stops(0, Integer.MAX_VALUE), -5);
        Due.is("20: -2", x.stops(0, -2), -2);
        Due.is("20: no mule", x.stops(6, -1), -2);
        Due.is("20: no mule", x.stops(-1, 0), -2);
        x.stand(0, 12, 2);
        Due.is("20: at the end", x.stops(0, -1), 0);
        x = Due.made("length 6; inn 1; inn 2; inn 3; mule 4 13 0; cliff 4; cliff 5; cliff 6; mule 3 2 0 at 3");
        x.goes(0, 3);
        Due.is("20: doubled to 64 at most", x.muleOf(0, 1), 64);
        Due.is("20: a shy one finds no place", x.stops(1, -1), 0);
    }

    private static void minutes() {
        x = Due.made(KINDS);
        int[] due = {16, 24, 16, 20, 15, 16};
        for (int m = 0; m < 6; m++) {
            Due.is("21: minutes of " + m, x.minutes(m), due[m]);
        }
        x.stand(1, 12, 0);
        Due.is("21: at the end", x.minutes(1), 0);
        Due.is("21: no mule", x.minutes(6), -2);
        Due.is("21: no mule", x.minutes(-1), -2);
    }

    private static void after() {
        x = Due.made(KINDS);
        int[][] due = {{0, 0}, {1, 1}, {2, 2}, {5, 2}, {6, 3}, {8, 5}, {11, 5}, {12, 6}, {23, 11}, {24, 12}, {400, 12}};
        for (int[] pair : due) {
            Due.is("22: after " + pair[0], x.after(1, pair[0]), pair[1]);
        }
        Due.is("22: -1", x.after(1, -1), -2);
        Due.is("22: 401", x.after(1, 401), -2);
        Due.is("22: no mule", x.after(6, 0), -2);
        x = slowest(60, 9);
        Due.is("22: still on the way", x.after(0, 400), 37);
        Due.is("22: at rest", x.after(0, 396), 36);
        Due.is("21: long", x.minutes(0), 660);
    }

    /** A stop at each place, of 1 and a minutes. */
    private static NinthStep slowest(int end, int a) {
        NinthStep y = new NinthStep();
        y.length(end);
        for (int p = 1; p <= end; p++) {
            y.put(p, 0, true);
        }
        y.mule(1, 2, a);
        return y;
    }

    private static void goodFallsMissed() {
        x = Due.made(VIEWS);
        int[] good = {1, 0, 0, 0, 1, 1};
        int[] falls = {-1, 6, 6, -1, -1, -1};
        int[] missed = {0, 2, 0, 2, 0, 0};
        for (int m = 0; m < 6; m++) {
            Due.is("23: good " + m, x.good(m), good[m]);
            Due.is("24: falls " + m, x.falls(m), falls[m]);
            Due.is("25: missed " + m, x.missed(m), missed[m]);
        }
        x.put(6, 1, true);
        Due.is("24: a sure one stops at an inn at a cliff", x.falls(5), 6);
        Due.is("23: so it is not good", x.good(5), 0);
        Due.is("25: and comes to views otherwise", x.missed(5), 1);
        x.stand(3, 4, 1);
        Due.is("23: only views above", x.good(3), 1);
        Due.is("24: NONE is not refused", x.status(12), 0);
        for (int m = -1; m <= 6; m += 7) {
            Due.is("23: no mule", x.good(m), -2);
            Due.is("24: no mule", x.falls(m), -2);
            Due.is("25: no mule", x.missed(m), -2);
        }
    }

    private static void roped() {
        x = Due.made("length 12; mule 0 3 0 at 2 count 1; mule 2 4 0");
        for (int m = 0; m < 2; m++) {
            Due.is("27: places", x.roped(m, 1 - m, 0), 4);
            Due.is("27: both", x.roped(m, 1 - m, 1), 10);
        }
        x.stand(0, 11, 0);
        Due.is("27: none", x.roped(0, 1, 0), 0);
        Due.is("27: none both", x.roped(0, 1, 1), -1);
        Due.is("27: NONE is not refused", x.status(12), 0);
        Due.is("27: one twice", x.roped(1, 1, 0), -2);
        Due.is("27: no mule", x.roped(0, 2, 0), -2);
        Due.is("27: no mule", x.roped(-1, 1, 0), -2);
        Due.is("27: what 2", x.roped(0, 1, 2), -2);
        Due.is("27: what -1", x.roped(0, 1, -1), -2);
    }

    private static void meets() {
        x = Due.made("mule 0 13 0; mule 0 2 0 at 3; mule 0 13 0");
        Due.is("28: meets", x.meets(0, 1), 9);
        Due.is("28: meets", x.meets(1, 0), 9);
        Due.is("28: at once", x.meets(0, 2), 0);
        x.stand(1, 30, 0);
        Due.is("28: at the end", x.meets(0, 1), 32);
        x = slowest(58, 5);
        x.mule(2, 2, 0);
        x.stand(1, 58, 0);
        Due.is("28: in 400", x.meets(0, 1), 400);
        x = slowest(59, 5);
        x.mule(2, 2, 0);
        x.stand(1, 59, 0);
        Due.is("28: not in 400", x.meets(0, 1), -1);
        Due.is("28: NONE is not refused", x.status(12), 0);
        Due.is("28: one twice", x.meets(0, 0), -2);
        Due.is("28: no mule", x.meets(0, 2), -2);
        Due.is("28: no mule", x.meets(-1, 0), -2);
    }

    private static void last() {
        x = new NinthStep();
        Due.is("29: no mules", x.last(), -5);
        x = Due.made(KINDS);
        Due.is("29: last", x.last(), 1);
        x = Due.made("mule 0 3 0; mule 0 2 0; mule 0 2 0");
        Due.is("29: of several the first", x.last(), 1);
        x.stand(0, 30, 0);
        x.stand(1, 30, 0);
        x.stand(2, 30, 0);
        Due.is("29: all at the end", x.last(), 0);
    }

    private static void train() {
        x = Due.made("length 12; mule 0 3 0 at 2 count 1; mule 2 4 0; mule 0 5 0 at 4");
        x.row(0, 3, 4);
        x.set(0, 0, 2);
        x.set(0, 1, 0);
        x.set(0, 2, 1);
        x.set(0, 3, 1);
        Due.is("30: one", x.train(0, 1), 1);
        Due.is("30: two", x.train(0, 2), 3);
        Due.is("30: three", x.train(0, 3), 4);
        Due.is("30: one twice", x.train(0, 4), -2);
    }

    private static void trainRefuses() {
        x = Due.made("mule 0 3 0");
        x.row(0, 3, 1);
        x.show(1, 0);
        Due.is("30: no shelf", x.train(8, 1), -2);
        Due.is("30: n 0 of a mule", x.train(1, 0), -2);
        Due.is("30: n 7 of nothing", x.train(2, 7), -2);
        Due.is("30: a mule", x.train(1, 1), -3);
        Due.is("30: nothing", x.train(2, 1), -4);
        Due.is("30: fewer elements", x.train(0, 2), -2);
        Due.is("30: a train of one", x.train(0, 1), 10);
        x.set(0, 0, 1);
        Due.is("30: no mule", x.train(0, 1), -2);
        x.set(0, 0, -1);
        Due.is("30: no mule", x.train(0, 1), -2);
        x.set(0, 0, 1L << 32);
        Due.is("30: no mule", x.train(0, 1), -2);
    }

    private static void crowdAndBest() {
        x = Due.made("length 12; mule 0 3 0; mule 0 4 0; mule 0 6 0");
        int[] crowds = {0, 0, 0, 1, 1, 0, 2, 0, 1, 1, 0, 0, 3};
        for (int p = 0; p <= 12; p++) {
            Due.is("31: crowd " + p, x.crowd(p), crowds[p]);
        }
        Due.is("31: -1", x.crowd(-1), -2);
        Due.is("31: 13", x.crowd(13), -2);
        int[] best = {12, 6, 3, 4, 8, 9};
        for (int i = 0; i < best.length; i++) {
            Due.is("32: best " + i, x.best(i), best[i]);
        }
        Due.is("32: no more", x.best(6), -5);
        Due.is("32: 9", x.best(9), -5);
        Due.is("32: 10", x.best(10), -2);
        Due.is("32: -1", x.best(-1), -2);
        x = Due.made("mule 0 2 0");
        Due.is("32: the tenth", x.best(9), 20);
        x = new NinthStep();
        Due.is("32: no mules", x.best(0), -5);
    }

    private static void sure() {
        x = Due.made("length 3; cliff 3; mule 0 3 0");
        Due.is("35: never", x.sure(0, 0), 0);
        Due.is("35: by 100", x.sure(0, 100), 190000);
        Due.is("35: always", x.sure(0, 1000), 1000000);
        x.teach(0, 6);
        Due.is("35: cut", x.sure(0, 333), 963074);
        Due.is("35: -1", x.sure(0, -1), -2);
        Due.is("35: 1001", x.sure(0, 1001), -2);
        Due.is("35: no mule", x.sure(1, 0), -2);
        x.stand(0, 3, 0);
        Due.is("35: at the end", x.sure(0, 500), 1000000);
        x = Due.made("length 3; stone 1; inn 1; cliff 2; mule 0 3 0; mule 1 3 0; mule 2 3 0; mule 3 3 0; mule 4 3 0; mule 5 3 0");
        for (int m = 0; m < 6; m++) {
            Due.is("35: all as of kind 0", x.sure(m, 0), 0);
            Due.is("35: all as of kind 0", x.sure(m, 250), 250000);
        }
        x = Due.made("length 3; cliff 0; cliff 2; mule 3 2 0");
        for (int i = 0; i < 70; i++) {
            x.turn(0);
        }
        Due.is("35: a count above its number", x.sure(0, 0), 1000000);
    }

    private static void judge() {
        x = Due.made("length 12; mule 0 4 0");
        x.row(0, 3, 4);
        x.set(0, 0, 4);
        x.set(0, 1, 8);
        x.set(0, 2, 12);
        x.set(0, 3, 16);
        Due.is("36: none told", x.judge(0, 0, 0), 0);
        Due.is("36: there are more", x.judge(0, 1, 0), 1);
        Due.is("36: there are more", x.judge(0, 2, 0), 2);
        Due.is("36: right", x.judge(0, 3, 0), -1);
        Due.is("36: one too many", x.judge(0, 4, 0), 3);
        x.set(0, 1, 8 + (1L << 32));
        Due.is("36: wrong", x.judge(0, 3, 0), 1);
        Due.is("36: right that far, and there are more", x.judge(0, 1, 0), 1);
        x.stand(0, 12, 0);
        Due.is("36: none, and none told", x.judge(0, 0, 0), -1);
        Due.is("36: NONE is not refused", x.status(12), 0);
        x.show(1, 0);
        Due.is("36: no shelf", x.judge(-1, 0, 0), -2);
        Due.is("36: n -1 of a mule", x.judge(1, -1, 0), -2);
        Due.is("36: n 41", x.judge(0, 41, 0), -2);
        Due.is("36: no mule, of nothing", x.judge(2, 0, 1), -2);
        Due.is("36: a mule", x.judge(1, 9, 0), -3);
        Due.is("36: nothing", x.judge(2, 9, 0), -4);
        Due.is("36: fewer elements", x.judge(0, 5, 0), -2);
    }

    private static void worst() {
        x = new NinthStep();
        Due.is("37: no mules", x.worst(), -5);
        x = Due.made("length 12; cliff 6; cliff 12; mule 0 7 0; mule 0 4 0; mule 0 3 0; mule 0 6 0");
        Due.is("37: of several the first", x.worst(), 2);
        x.stand(2, 6, 0);
        Due.is("37: then the other", x.worst(), 3);
        x.put(6, 2, false);
        x.put(12, 2, false);
        Due.is("37: none", x.worst(), 0);
    }

    private static void lucky() {
        x = Due.made(VIEWS);
        x.stand(1, 0, 2);
        Due.is("38: by count 0", x.lucky(1), 4);
        x.stand(1, 7, 0);
        Due.is("38: from where it is", x.lucky(1), -1);
        x.stand(1, 8, 0);
        Due.is("38: least", x.lucky(1), 2);
        Due.is("38: NONE is not refused", x.status(12), 0);
        Due.is("38: no mule", x.lucky(6), -2);
        Due.is("38: no mule", x.lucky(-1), -2);
        x = Due.made("view 13; cliff 26; mule 0 2 0");
        Due.is("38: none", x.lucky(0), -1);
        x.put(26, 2, false);
        Due.is("38: 13", x.lucky(0), 13);
    }

    private static void nothingIsChanged() {
        x = Due.made(KINDS);
        x.row(0, 2, 2);
        x.set(0, 1, 1);
        for (int m = 0; m < 6; m++) {
            x.stops(m, -1);
            x.after(m, 9);
            x.turns(m, -1);
            x.roped(m, (m + 1) % 6, 0);
            x.meets(m, (m + 1) % 6);
            x.lucky(m);
            x.sure(m, 300);
        }
        x.train(0, 2);
        x.best(0);
        x.stones(-1);
        for (int m = 0; m < 6; m++) {
            int[] due = {m, 3, 0, m == 3 ? 2 : 0, 0};
            for (int what = 0; what < due.length; what++) {
                Due.is("20 to 38: muleOf " + m + " " + what, x.muleOf(m, what), due[what]);
            }
        }
        Due.is("20 to 38: stones", x.status(2), 1);
        Due.is("20 to 38: seed", x.status(9), 1);
        Due.is("20 to 38: fell", x.status(7), 0);
    }
}
