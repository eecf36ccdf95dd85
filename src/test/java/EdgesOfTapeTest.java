/** The boundary cases of promises 15 to 17: THE TAPE, and a PASS read from it. A ^ marks where the FAULT is. */
public final class EdgesOfTapeTest {
    private static final String MULE = "mule 0 5 3";
    private static final String SIX = Edge.times(6, MULE);
    private static final String[] THINGS = {"stone", "inn", "cliff", "view"};

    public static void main(String[] args) {
        feed();
        wipe();
        fullTape();
        tokens();
        words();
        blanks();
        statements();
        bytesThatBeginNone();
        length();
        lengthWithMules();
        lengthBelowSomething();
        things();
        cliffsAndViews();
        toldAgain();
        mule();
        muleAtAndCount();
        muleNoRoom();
        endsTooEarly();
        allOrNothing();
        Due.end();
    }

    private static void feed() {
        Edge.does("15: the least byte", "", "feed 0", 1, "status 8 = 1");
        Edge.does("15: the greatest byte", "", "feed 255", 1, "status 8 = 1");
        Edge.refuses("15: below the least byte", "", "feed -1", -2);
        Edge.refuses("15: above the greatest byte", "", "feed 256", -2);
        Edge.refuses("15: far", "", "feed" + Edge.MIN, -2);
        Edge.refuses("15: far", "", "feed" + Edge.MAX, -2);
        Edge.does("15: its size", "feed 1, feed 2", "feed 3", 3);
        Edge.does("15: the 250th", Edge.times(249, "feed 32"), "feed 32", 250, "status 8 = 250");
        Edge.refuses("15: the 251st", Edge.times(250, "feed 32"), "feed 32", -6);
        Edge.refuses("15: BAD ahead of FULL", Edge.times(250, "feed 32"), "feed 256", -2);
        Edge.refuses("15: BAD ahead of FULL", Edge.times(250, "feed 32"), "feed -1", -2);
    }

    private static void wipe() {
        Edge.thinks("16: an empty TAPE", "", "wipe", 0);
        Edge.does("16: one byte", "feed 9", "wipe", 1, "status 8 = 0, wipe = 0");
        Edge.does("16: a full TAPE", Edge.times(250, "feed 9"), "wipe", 250, "status 8 = 0, feed 9 = 1");
        Edge.reads("16: what was fed ahead is gone", Edge.tape("stone x") + ", wipe", "inn 3", 1, "placeOf 3 = 2");
        Edge.does("17: THE TAPE is empty then", Edge.tape("stone 3"), "pass", 1, "status 8 = 0, wipe = 0, feed 9 = 1");
        Edge.reads("17: a longer text was ahead", Edge.tape("stone 3;stone 4") + ", pass", "inn 5", 1,
            "status 2 = 2, status 3 = 1");
    }

    private static void fullTape() {
        Edge.reads("17: 250 blanks but for one STATEMENT", "", " ".repeat(244) + "inn 17", 1, "placeOf 17 = 2");
        Edge.reads("17: 50 STATEMENTS in 250 bytes", "", "inn1;".repeat(49) + "inn7 ", 50, "status 3 = 2");
        Edge.faults("17: 250 bytes end with ;", "", "inn1;".repeat(50) + "^");
        Edge.faults("17: 250 bytes end within a STATEMENT", "", " ".repeat(246) + "inn ^");
        Edge.faults("17: the last of 250 bytes", "", " ".repeat(243) + "inn 17^x");
        Edge.faultsAt("17: 250 blanks", Edge.times(250, "feed 32"), 250);
        Edge.faultsAt("17: 250 digits", Edge.times(250, "feed 48"), 0);
        Edge.faultsAt("17: 250 letters", Edge.times(250, "feed 97"), 0);
        Edge.faultsAt("17: 250 times ;", Edge.times(250, "feed 59"), 0);
        Edge.faults("17: a NUMBER of 245 digits", "", "stone^" + "0".repeat(245));
        Edge.faults("17: a WORD of 250 letters", "", "^stone" + "e".repeat(245));
        Edge.refuses("15: a full TAPE stays as it was", Edge.tape("inn1;".repeat(49) + "inn7 "), "feed 120", -6);
    }

    private static void tokens() {
        Edge.reads("17: no blank between WORD and NUMBER", "", "stone3", 1, "placeOf 3 = 1");
        Edge.reads("17: no blanks but between NUMBERS", "", "length9;mule3 4 5at6count3", 2,
            "muleOf 0 0 = 3, muleOf 0 1 = 4, muleOf 0 5 = 5, muleOf 0 2 = 6, muleOf 0 3 = 3");
        Edge.reads("17: a NUMBER as long as can be", "", "stone 12", 1, "placeOf 12 = 1, placeOf 1 = 0");
        Edge.faults("17: two NUMBERS", "", "stone 1 ^2");
        Edge.faults("17: NUMBERS run together", "", "mule ^050");
        Edge.faults("17: NUMBERS run together", "", "mule 0 ^53");
        Edge.faults("17: a WORD too long", "", "^stones 3");
        Edge.faults("17: a WORD too short", "", "^ston 3");
        Edge.faults("17: WORDS run together", "", "^stoneinn 3");
        Edge.faults("17: a WORD in two", "", "^sto ne 3");
        Edge.faults("17: a great letter", "", "^Stone 3");
        Edge.faults("17: a great letter within a WORD", "", "^stOne 3");
        Edge.faults("17: a NUMBER where a WORD is due", "", "^3");
        Edge.faults("17: a WORD where a NUMBER is due", "", "stone ^three");
        Edge.faults("17: a sign ahead of a NUMBER", "", "stone ^-3");
        Edge.faults("17: a sign ahead of a NUMBER", "", "stone ^+3");
        Edge.faults("17: a NUMBER with a part", "", "stone 3^.0");
        Edge.faults("17: a WORD that only stands behind others", "", "^at 3");
        Edge.faults("17: a WORD that only stands behind others", "", "^count 3");
    }

    /** Each letter of each WORD counts. */
    private static void words() {
        String[] first = {"length 30", "stone 3", "inn 3", "cliff 3", "view 3", "mule 0 5 3"};
        String[] behind = {"at 3", "count 3"};
        for (String text : first) {
            for (int i = 0; text.charAt(i) != ' '; i++) {
                Edge.faults("17: another letter", "", "^" + text.substring(0, i) + "x" + text.substring(i + 1));
                Edge.faults("17: a letter less", "", "^" + text.substring(0, i) + text.substring(i + 1));
            }
        }
        for (String text : behind) {
            for (int i = 0; text.charAt(i) != ' '; i++) {
                Edge.faults("17: another letter", "", "mule 0 5 3 ^" + text.substring(0, i) + "x" + text.substring(i + 1));
                Edge.faults("17: a letter less", "", "mule 0 5 3 ^" + text.substring(0, i) + text.substring(i + 1));
            }
        }
    }

    private static void blanks() {
        Edge.reads("17: ahead", "", "   stone 3", 1, "placeOf 3 = 1");
        Edge.reads("17: behind", "", "stone 3   ", 1, "placeOf 3 = 1");
        Edge.reads("17: between", "", "stone     3  ;  inn   4", 2, "placeOf 3 = 1, placeOf 4 = 2");
        Edge.faults("17: a fault behind blanks", "", "   stone    ^31");
        Edge.faults("17: a fault between blanks", "", "   ^ston   31");
        Edge.faultsAt("17: a tab is no blank", Edge.tape("stone\t3"), 5);
        Edge.faultsAt("17: a new line is no blank", Edge.tape("stone 3\n"), 7);
        Edge.faultsAt("17: 0 is no blank", Edge.tape("stone 3") + ", feed 0", 7);
        Edge.faultsAt("17: 160 is no blank", "feed 160, " + Edge.tape("stone 3"), 0);
    }

    private static void statements() {
        Edge.reads("17: one", "", "stone 3", 1);
        Edge.reads("17: two", "", "stone 3;stone 4", 2);
        Edge.faults("17: none", "", "^");
        Edge.faults("17: none, but blanks", "", "   ^");
        Edge.faults("17: ; alone", "", "^;");
        Edge.faults("17: ; ahead", "", "^;stone 3");
        Edge.faults("17: ; behind", "", "stone 3;^");
        Edge.faults("17: ; behind, and blanks", "", "stone 3;  ^");
        Edge.faults("17: ; twice", "", "stone 3;^;stone 4");
        Edge.faults("17: ; twice, and a blank", "", "stone 3; ^;stone 4");
        Edge.faults("17: no ; between", "", "stone 3 ^inn 4");
        Edge.faults("17: no ; between", "", "stone 3^inn 4");
        Edge.faults("17: ; within", "", "stone^; 3");
        Edge.faults("17: ; within", "", "mule 0 5^;3");
        Edge.faults("17: something else between", "", "stone 3 ^, inn 4");
        Edge.faults("17: the first of two faults", "", "stone ^31; inn 32");
        Edge.faults("17: a fault in the second", "", "stone 30; inn ^31");
    }

    /** Every byte ahead of, within and behind a STATEMENT. */
    private static void bytesThatBeginNone() {
        for (int b = 0; b <= 255; b++) {
            boolean letter = b >= 'a' && b <= 'z';
            boolean digit = b >= '0' && b <= '9';
            String ahead = Edge.join("feed " + b, Edge.tape("inn 3"));
            String within = Edge.join(Edge.tape("inn"), "feed " + b, Edge.tape("3"));
            String behind = Edge.join(Edge.tape("inn 3"), "feed " + b);
            String which = "17: byte " + b;
            if (b == ' ') {
                Edge.does(which + " ahead", ahead, "pass", 1, "placeOf 3 = 2");
                Edge.does(which + " within", within, "pass", 1, "placeOf 3 = 2");
                Edge.does(which + " behind", behind, "pass", 1, "placeOf 3 = 2");
                continue;
            }
            Edge.faultsAt(which + " ahead", ahead, 0);
            if (digit && b <= '2') {
                Edge.does(which + " within", within, "pass", 1, "placeOf " + (b - '0') + "3 = 2");
            } else {
                Edge.faultsAt(which + " within", within, letter ? 0 : 3);
            }
            if (b == '0') {
                Edge.does(which + " behind", behind, "pass", 1, "placeOf 30 = 2");
            } else {
                Edge.faultsAt(which + " behind", behind, digit ? 4 : b == ';' ? 6 : 5);
            }
        }
    }

    private static void length() {
        Edge.reads("17: the least", "", "length 1", 1, "status 0 = 1");
        Edge.reads("17: the greatest", "", "length 60", 1, "status 0 = 60");
        Edge.reads("17: two digits", "", "length 01", 1, "status 0 = 1");
        Edge.reads("17: as it is", "", "length 30", 1, "status 0 = 30");
        Edge.reads("17: twice", "", "length 60;length 7", 2, "status 0 = 7");
        Edge.faults("17: below the least", "", "length ^0");
        Edge.faults("17: below the least", "", "length ^00");
        Edge.faults("17: above the greatest", "", "length ^61");
        Edge.faults("17: above the greatest", "", "length ^99");
        Edge.faults("17: more than 2 digits", "", "length ^030");
        Edge.faults("17: more than 2 digits", "", "length ^100");
        Edge.faults("17: no NUMBER", "", "length ^;stone 3");
        Edge.faults("17: two NUMBERS", "", "length 9 ^9");
        Edge.reads("17: P up to the new END", "", "length 60;stone 60", 2, "placeOf 60 = 1");
        Edge.faults("17: P above the new END", "", "length 60;stone ^61");
        Edge.faults("17: P above a lesser END", "", "length 9;stone ^10");
        Edge.reads("17: P up to the END that was, then length", "", "stone 30;length 60;stone 60", 3, "status 0 = 60");
    }

    private static void lengthWithMules() {
        Edge.faults("17: there are MULES: its word", MULE, "^length 30");
        Edge.faults("17: there are MULES: its word, and N too great", MULE, "^length 61");
        Edge.faults("17: there are MULES: its word, and no N", MULE, "^length");
        Edge.faults("17: MULES told ahead: its word", "", "mule 0 5 3; ^length 30");
        Edge.faults("17: there are MULES, and something above N: its word", MULE + ", put 9 0 1", "stone 1;^length 8");
        Edge.reads("17: MULES told behind", "", "length 40; mule 0 5 3 at 40", 2, "muleOf 0 2 = 40, status 0 = 40");
    }

    private static void lengthBelowSomething() {
        for (int what = 0; what < 4; what++) {
            String there = "put 9 " + what + " 1";
            Edge.faults("17: something is above N: N", there, "length ^8");
            Edge.reads("17: something is at N", there, "length 9", 1, "status 0 = 9");
            Edge.faults("17: something told ahead is above N: N", "", THINGS[what] + " 9;length  ^8");
            Edge.reads("17: something told ahead is at N", "", THINGS[what] + " 9;length 9", 2, "status 0 = 9");
        }
        Edge.reads("17: something at 0", "put 0 0 1", "length 1", 1, "status 0 = 1");
        Edge.faults("17: below the least, and something is above", "put 9 0 1", "length ^0");
    }

    private static void things() {
        for (int what = 0; what < 4; what++) {
            String word = THINGS[what];
            int bit = 1 << what;
            Edge.reads("17: at 0", "", word + " 0", 1, "placeOf 0 = " + bit);
            Edge.reads("17: at 00", "", word + " 00", 1, "placeOf 0 = " + bit);
            Edge.reads("17: at the END", "", word + " 30", 1, "placeOf 30 = " + bit + ", status " + (2 + what) + " = 1");
            Edge.reads("17: at 60", "length 60", word + " 60", 1, "placeOf 60 = " + bit);
            Edge.faults("17: above the END", "", word + " ^31");
            Edge.faults("17: above 60", "length 60", word + " ^61");
            Edge.faults("17: more than 2 digits", "", word + " ^003");
            Edge.faults("17: a NUMBER that wraps around to 3", "", word + " ^4294967299");
            Edge.faults("17: no P", "", word + " ^" + word + " 3");
            Edge.faults("17: two P", "", word + " 3 ^4");
            Edge.reads("17: though there are MULES", SIX, word + " 3", 1, "placeOf 3 = " + bit);
        }
    }

    private static void cliffsAndViews() {
        Edge.faults("17: a cliff at a VIEW: P", "put 3 3 1", "cliff  ^3");
        Edge.faults("17: a view at a CLIFF: P", "put 3 2 1", "view  ^3");
        Edge.faults("17: a cliff at a view told ahead: P", "", "view 3;cliff ^3");
        Edge.faults("17: a view at a cliff told ahead: P", "", "cliff 03;view ^3");
        Edge.faults("17: a cliff at a VIEW: P, whatever comes behind", "put 3 3 1", "cliff ^3 4 x");
        Edge.reads("17: a cliff beside a VIEW", "put 3 3 1", "cliff 2;cliff 4", 2, "placeOf 2 = 4, placeOf 4 = 4");
        Edge.reads("17: stone, inn and cliff at one P", "", "stone 3;inn 3;cliff 3", 3, "placeOf 3 = 7");
        Edge.reads("17: stone, inn and view at one P", "", "view 3;stone 3;inn 3", 3, "placeOf 3 = 11");
    }

    private static void toldAgain() {
        for (int what = 0; what < 4; what++) {
            String word = THINGS[what];
            Edge.reads("17: what is there already", "put 3 " + what + " 1", word + " 3", 1, "status " + (2 + what) + " = 1");
            Edge.reads("17: told twice", "", word + " 3;" + word + " 3", 2, "status " + (2 + what) + " = 1");
        }
        Edge.reads("17: to what there is", "put 3 0 1, slip 9, " + MULE, "stone 4;mule 1 2 0", 2,
            "status 2 = 2, status 1 = 2, status 6 = 9, muleOf 0 1 = 5, muleOf 1 1 = 2");
    }

    private static void mule() {
        for (int kind = 0; kind < 6; kind++) {
            Edge.reads("17: K", "", "mule " + kind + " 5 3", 1, "muleOf 0 0 = " + kind + ", status 1 = 1");
            Edge.reads("17: the least N and A", "", "mule " + kind + " 2 0", 1, "muleOf 0 1 = 2, muleOf 0 5 = 0");
            Edge.reads("17: the greatest N and A", "", "mule " + kind + " 13 9", 1, "muleOf 0 1 = 13, muleOf 0 5 = 9");
            Edge.faults("17: below the least N", "", "mule " + kind + " ^1 0");
            Edge.faults("17: above the greatest N", "", "mule " + kind + " ^14 0");
        }
        Edge.reads("17: two digits", "", "mule 05 02 09", 1, "muleOf 0 0 = 5, muleOf 0 1 = 2, muleOf 0 5 = 9");
        Edge.faults("17: above the last K", "", "mule ^6 5 3");
        Edge.faults("17: N 0", "", "mule 0 ^0 3");
        Edge.faults("17: N 64 comes only later", "", "mule 4 ^64 3");
        Edge.faults("17: above the greatest A", "", "mule 0 5 ^10");
        Edge.faults("17: K of 3 digits", "", "mule ^000 5 3");
        Edge.faults("17: N of 3 digits", "", "mule 0 ^005 3");
        Edge.faults("17: A of 3 digits", "", "mule 0 5 ^003");
        Edge.faults("17: no A", "", "mule 0 5 ^;stone 3");
        Edge.faults("17: no A", "", "mule 0 5 ^at 3");
        Edge.faults("17: one NUMBER more", "", "mule 0 5 3 ^3");
        Edge.faults("17: K is first", "", "mule ^6 14 10 at 31");
        Edge.faults("17: N is next", "", "mule 5 ^14 10 at 31");
        Edge.faults("17: then A", "", "mule 5 13 ^10 at 31");
        Edge.reads("17: SLOW, by the greatest A", "", "length 2;mule 1 2 9", 2, "minutes 0 = 12, goes 0 2 = 2, muleOf 0 4 = 10");
        Edge.reads("17: LOOSE, by a stone", "", "stone 1;mule 2 3 9;mule 0 3 9", 3, "stops 0 0 = 3, stops 1 0 = 2");
        Edge.reads("17: at first", "", "mule 5 13 9", 1, "muleOf 0 2 = 0, muleOf 0 3 = 0, muleOf 0 4 = 0");
    }

    private static void muleAtAndCount() {
        Edge.reads("17: at 0", "", "mule 0 5 3 at 0", 1, "muleOf 0 2 = 0");
        Edge.reads("17: at the END", "", "mule 0 5 3 at 30", 1, "muleOf 0 2 = 30, muleOf 0 3 = 0");
        Edge.faults("17: above the END", "", "mule 0 5 3 at ^31");
        Edge.faults("17: above an END told ahead", "", "length 9;mule 0 5 3 at ^10");
        Edge.faults("17: P of 3 digits", "", "mule 0 5 3 at ^003");
        for (int kind = 0; kind < 6; kind++) {
            Edge.reads("17: the least C", "", "mule " + kind + " 5 3 count 0", 1, "muleOf 0 3 = 0");
            Edge.reads("17: the greatest C", "", "mule " + kind + " 5 3 count 4", 1, "muleOf 0 3 = 4, muleOf 0 2 = 0");
            Edge.faults("17: above the greatest C", "", "mule " + kind + " 5 3 count ^5");
        }
        Edge.reads("17: the greatest C of N 2", "", "mule 0 2 3 count 1", 1, "muleOf 0 3 = 1");
        Edge.faults("17: above the greatest C of N 2", "", "mule 0 2 3 count ^2");
        Edge.reads("17: the greatest C of N 13", "", "mule 0 13 3 count 12", 1, "muleOf 0 3 = 12");
        Edge.faults("17: above the greatest C of N 13", "", "mule 0 13 3 count ^13");
        Edge.faults("17: C of 3 digits", "", "mule 0 5 3 count ^004");
        Edge.reads("17: both", "", "mule 0 5 3 at 30 count 4", 1, "muleOf 0 2 = 30, muleOf 0 3 = 4");
        Edge.faults("17: not in this order", "", "mule 0 5 3 count 4 ^at 30");
        Edge.faults("17: at twice", "", "mule 0 5 3 at 4 ^at 4");
        Edge.faults("17: count twice", "", "mule 0 5 3 count 4 ^count 4");
        Edge.faults("17: at without P", "", "mule 0 5 3 at ^count 4");
        Edge.faults("17: count without C", "", "mule 0 5 3 count ^;stone 3");
        Edge.faults("17: another WORD", "", "mule 0 5 3 ^stone 4");
        Edge.faults("17: at behind something else", "", "stone 3 ^at 4");
        Edge.faults("17: count behind something else", "", "length 9 ^count 4");
        Edge.faults("17: P is ahead of C", "", "mule 0 5 3 at ^31 count 5");
    }

    private static void muleNoRoom() {
        Edge.reads("17: the sixth", Edge.times(5, MULE), "mule 3 5 3", 1, "status 1 = 6, muleOf 5 0 = 3");
        Edge.faults("17: the seventh: its word", SIX, "^mule 0 5 3");
        Edge.faults("17: the seventh: its word, and K too great", SIX, "^mule 6 5 3");
        Edge.faults("17: the seventh: its word, and nothing else", SIX, "^mule");
        Edge.faults("17: the seventh told: its word", Edge.times(5, MULE), "mule 0 5 3;^mule 0 5 3");
        Edge.reads("17: six told", "", "mule 0 5 3;mule 1 5 3;mule 2 5 3;mule 3 5 3;mule 4 5 3;mule 5 5 3", 6, "status 1 = 6");
        Edge.faults("17: seven told", "", "mule 0 5 3;".repeat(6) + "^mule 0 5 3");
    }

    private static void endsTooEarly() {
        String[] texts = {"length", "stone", "inn", "cliff", "view", "mule", "mule 0", "mule 0 5", "mule 0 5 3 at",
            "mule 0 5 3 count", "mule 0 5 3 at 3 count", "stone 3;"};
        for (String text : texts) {
            Edge.faults("17: THE TAPE's size", "", text + "^");
            Edge.faults("17: THE TAPE's size, with blanks", "", text + "  ^");
        }
        Edge.faults("17: a WORD too short is a fault, not an early end", "", "^len");
        Edge.reads("17: it may end behind A", "", "mule 0 5 3", 1);
        Edge.reads("17: it may end behind P", "", "mule 0 5 3 at 3", 1);
        Edge.reads("17: it may end behind C", "", "mule 0 5 3 count 3", 1);
    }

    private static void allOrNothing() {
        String before = "length 20, put 3 0 1, slip 9, seed 77, row 0 2 3, set 0 1 5, " + MULE + ", show 1 0, goes 0 5";
        Edge.faults("17: or nothing", before, "stone 4;inn 5;cliff 6;view 7;mule 0 2 0;^bad");
        Edge.faults("17: or nothing", "", "length 40;stone 40;inn 5;cliff 6;view 7;mule 0 2 0 at 40;^");
        Edge.faults("17: or nothing, with as many MULES as may be", Edge.times(5, MULE), "mule 0 2 0;inn 5;^mule 0 2 0");
        Edge.does("17: the next MULE behind a fault", "", "wipe", 0,
            fed("mule 1 2 0;x"), "pass = -31, mule 0 5 3 = 0, muleOf 0 0 = 0, status 12 = 1");
        Edge.does("17: each is refused", "", "wipe", 0, "pass = -20, pass = -20, pass = -20, status 12 = 3");
    }

    private static String fed(String text) {
        StringBuilder all = new StringBuilder();
        for (int i = 0; i < text.length(); i++) {
            all.append(i > 0 ? ", " : "").append("feed ").append((int) text.charAt(i)).append(" = ").append(i + 1);
        }
        return all.toString();
    }
}
