/** Promises 15 to 17: the tape, and a pass read from it. */
public final class TapeTest {
    private static NinthStep x;

    public static void main(String[] args) {
        feedAndWipe();
        reads();
        readsWithBlanksOrWithout();
        comesToWhatThereIs();
        faultsOfTokens();
        faultsOfNumbers();
        faultsOfThings();
        endsTooEarly();
        allOrNothing();
        Due.end();
    }

    private static void feedAndWipe() {
        x = new NinthStep();
        Due.is("15: -1", x.feed(-1), -2);
        Due.is("15: 256", x.feed(256), -2);
        for (int i = 1; i <= 250; i++) {
            Due.is("15: feed", x.feed(i % 256), i);
        }
        Due.is("15: full", x.feed(0), -6);
        Due.is("15: full, and bad", x.feed(256), -2);
        Due.is("15: size", x.status(8), 250);
        Due.is("16: wipe", x.wipe(), 250);
        Due.is("16: empty", x.status(8), 0);
        Due.is("16: wipe", x.wipe(), 0);
        Due.is("15: feed", x.feed(255), 1);
    }

    private static void reads() {
        x = new NinthStep();
        Due.passIs(x, "length 24;stone 5;inn 8;cliff 9;view 7;mule 0 9 0;mule 3 8 2 at 24;mule 5 7 1 count 6;"
            + "mule 1 13 9 at 3 count 12", 9);
        Due.is("17: the tape is empty", x.status(8), 0);
        int[] status = {24, 4, 1, 1, 1, 1};
        for (int what = 0; what < status.length; what++) {
            Due.is("17: status " + what, x.status(what), status[what]);
        }
        int[][] mules = {{0, 9, 0, 0, 0, 0}, {3, 8, 24, 0, 0, 2}, {5, 7, 0, 6, 0, 1}, {1, 13, 3, 12, 0, 9}};
        for (int m = 0; m < mules.length; m++) {
            for (int what = 0; what < 6; what++) {
                Due.is("17: muleOf " + m + " " + what, x.muleOf(m, what), mules[m][what]);
            }
        }
        Due.is("17: stone", x.placeOf(5), 1);
        Due.is("17: inn", x.placeOf(8), 2);
        Due.is("17: cliff", x.placeOf(9), 4);
        Due.is("17: view", x.placeOf(7), 8);
    }

    private static void readsWithBlanksOrWithout() {
        x = new NinthStep();
        Due.passIs(x, "  stone   05 ;inn00;  mule0 3 0at2count1  ", 3);
        Due.is("17: stone", x.placeOf(5), 1);
        Due.is("17: inn", x.placeOf(0), 2);
        Due.is("17: at", x.muleOf(0, 2), 2);
        Due.is("17: count", x.muleOf(0, 3), 1);
    }

    private static void comesToWhatThereIs() {
        x = new NinthStep();
        x.put(4, 0, true);
        x.mule(0, 2, 0);
        Due.passIs(x, "stone 4; stone 4; cliff 6; cliff 6; mule 1 2 3", 5);
        Due.is("17: stones", x.status(2), 1);
        Due.is("17: mules", x.status(1), 2);
        x = new NinthStep();
        x.put(4, 0, true);
        Due.passIs(x, "length 4; length 60; stone 60; length 60", 4);
        Due.is("17: end", x.status(0), 60);
    }

    private static void faultsOfTokens() {
        x = new NinthStep();
        Due.passIs(x, "stones 3", -20);
        Due.passIs(x, "stonez 3", -20);
        Due.passIs(x, "stone{", -25);
        Due.passIs(x, "astone 3", -20);
        Due.passIs(x, "ttone 3", -20);
        Due.passIs(x, "nule 0 3 0", -20);
        Due.passIs(x, "  Stone 3", -22);
        Due.passIs(x, "stone;", -25);
        Due.passIs(x, "stone 3 4", -28);
        Due.passIs(x, "stone 3 inn 4", -28);
        Due.passIs(x, "stone 3;;inn 4", -28);
        Due.passIs(x, ";stone 3", -20);
        Due.passIs(x, "5", -20);
        Due.passIs(x, "stone 3, inn 4", -27);
        Due.passIs(x, "stone\t3", -25);
        Due.passIs(x, "stone -3", -26);
        Due.passIs(x, "stone three", -26);
        Due.passIs(x, "mule 0 3 0 count 1 at 2", -39);
        Due.passIs(x, "mule 0 3 0 at 1 at 2", -36);
        Due.passIs(x, "mule 0 3 0 4", -31);
        Due.passIs(x, "mule 0 3 at 1", -29);
        Due.passIs(x, "stone 3;\u00ff", -28);
        Due.is("17: each is refused", x.status(12), 22);
        Due.is("17: nothing came of them", x.status(1) + x.status(2), 0);
    }

    private static void faultsOfNumbers() {
        x = new NinthStep();
        Due.passIs(x, "stone 31", -26);
        Due.passIs(x, "stone 005", -26);
        Due.passIs(x, "stone 99999999999999999999", -26);
        Due.passIs(x, "stone 4294967299", -26);
        Due.passIs(x, "length 0", -27);
        Due.passIs(x, "length 61", -27);
        Due.passIs(x, "length 5; inn 6", -34);
        Due.passIs(x, "mule 6 3 0", -25);
        Due.passIs(x, "mule 0 1 0", -27);
        Due.passIs(x, "mule 0 14 0", -27);
        Due.passIs(x, "mule 4 64 0", -27);
        Due.passIs(x, "mule 0 3 10", -29);
        Due.passIs(x, "mule 0 3 0 at 31", -34);
        Due.passIs(x, "mule 0 3 0 count 3", -37);
        Due.passIs(x, "mule 0 3 0 at 31 count 3", -34);
        Due.is("17: nothing came of them", x.status(1), 0);
    }

    private static void faultsOfThings() {
        x = new NinthStep();
        Due.passIs(x, "view 3; cliff 3", -34);
        Due.passIs(x, "cliff 3; view 3", -34);
        x.put(9, 2, true);
        Due.passIs(x, "view 9", -25);
        Due.passIs(x, "length 8", -27);
        Due.passIs(x, "inn 10; length  9", -36);
        Due.passIs(x, "mule 0 3 0; length 30", -32);
        for (int i = 0; i < 5; i++) {
            x.mule(0, 2, 0);
        }
        Due.passIs(x, "length 30", -20);
        Due.passIs(x, "length", -20);
        Due.passIs(x, "mule 0 3 0; mule 0 3 0", -32);
        Due.is("17: still five", x.status(1), 5);
        Due.passIs(x, "mule 0 3 0", 1);
        Due.passIs(x, "stone 1; mule", -29);
    }

    private static void endsTooEarly() {
        x = new NinthStep();
        Due.is("17: an empty tape", x.pass(), -20);
        String[] texts = {"   ", "stone", "stone ", "stone 3;", "stone 3 ; ", "mule", "mule 0", "mule 0 3",
            "mule 0 3 0 at", "mule 0 3 0 count ", "mule 0 3 0 at 2 count", "length", "length "};
        for (String text : texts) {
            Due.passIs(x, text, -20 - text.length());
        }
        StringBuilder full = new StringBuilder("stone 3");
        while (full.length() < 250) {
            full.append(full.length() == 249 ? ";" : " ");
        }
        Due.passIs(x, full.toString(), -270);
        Due.is("17: nothing came of it", x.status(2), 0);
        Due.is("17: the tape is empty", x.status(8), 0);
        Due.is("17: refused", x.status(12), texts.length + 2);
    }

    private static void allOrNothing() {
        x = new NinthStep();
        x.put(1, 0, true);
        Due.passIs(x, "length 40; stone 2; inn 2; view 3; cliff 4; mule 0 2 0; bad", -76);
        int[] due = {30, 0, 1, 0, 0, 0};
        for (int what = 0; what < due.length; what++) {
            Due.is("17: status " + what, x.status(what), due[what]);
        }
        Due.is("17: the next mule", x.mule(1, 2, 0), 0);
    }
}
