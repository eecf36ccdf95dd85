/** The boundary cases of promises 1 to 8: a new object, ROWS, SHELVES, what a MULE says. */
public final class EdgesOfShelvesTest {
    private static final String MULE = "mule 0 2 0";
    private static final String SIX = Edge.times(6, MULE);

    public static void main(String[] args) {
        newObject();
        row();
        rowInPlaceOfAnother();
        set();
        bytesAndShorts();
        intsLongsAndBooleans();
        copyOfShelves();
        copyOfOthers();
        copyOfPlaces();
        copyAsTheyWere();
        element();
        holds();
        show();
        saysRefuses();
        saysOfKinds();
        saysWhatIsAhead();
        Due.end();
    }

    private static void newObject() {
        int[] due = {30, 0, 0, 0, 0, 0, 0, 0, 0, 1, 0, -1, 0, 0, 0, 0, 0};
        for (int what = 0; what < due.length; what++) {
            Edge.thinks("1: at first", "", "status " + what, due[what]);
        }
        Edge.thinks("1: nothing there", "", "placeOf 0", 0);
        Edge.thinks("1: nothing there", "", "placeOf 30", 0);
        Edge.refuses("1: 30 as END", "", "placeOf 31", -2);
        Edge.refuses("1: no MULES", "", "muleOf 0 0", -2);
        Edge.refuses("1: no MULES", "", "last", -5);
        Edge.thinks("1: SHELVES hold NOTHING", "", "holds 0", -1);
        Edge.thinks("1: SHELVES hold NOTHING", "", "holds 7", -1);
        Edge.refuses("1: SHELVES hold NOTHING", "", "set 0 0 0", -4);
        Edge.thinks("1: THE TAPE is empty", "", "wipe", 0);
        Edge.does("1: THE TAPE is empty", "", "feed 59", 1);
        Edge.faults("1: THE TAPE is empty", "", "^");
        Edge.refuses("1: nothing was kept", "", "back", -5);
    }

    private static void row() {
        Edge.does("2: the first SHELF", "", "row 0 2 1", 1, "holds 0 = 2, status 10 = 1");
        Edge.does("2: the last SHELF", "", "row 7 2 1", 1, "holds 7 = 2, status 10 = 1");
        Edge.refuses("2: below the first SHELF", "", "row -1 2 1", -2);
        Edge.refuses("2: above the last SHELF", "", "row 8 2 1", -2);
        Edge.does("2: the first SORT", "", "row 0 0 1", 1, "holds 0 = 0");
        Edge.does("2: the last SORT", "", "row 0 4 1", 1, "holds 0 = 4");
        Edge.refuses("2: below the first SORT", "", "row 0 -1 1", -2);
        Edge.refuses("2: above the last SORT", "", "row 0 5 1", -2);
        Edge.does("2: no elements", "", "row 0 2 0", 1, "holds 0 = 2, set 0 0 9 = -2, element 0 0 = 0");
        Edge.does("2: 40 elements", "", "row 0 2 40", 1, "set 0 39 9 = 1, set 0 40 9 = -2, element 0 39 = 9");
        Edge.refuses("2: fewer than none", "", "row 0 2 -1", -2);
        Edge.refuses("2: more than 40", "", "row 0 2 41", -2);
        for (String far : new String[] {Edge.MIN, Edge.MAX}) {
            Edge.refuses("2: far", "", "row" + far + " 2 1", -2);
            Edge.refuses("2: far", "", "row 0" + far + " 1", -2);
            Edge.refuses("2: far", "", "row 0 2" + far, -2);
        }
        for (int sort = 0; sort <= 4; sort++) {
            Edge.does("2: 0, or not so, at first", "", "row 3 " + sort + " 40", 1, "element 3 0 = 0, element 3 39 = 0");
        }
        String all = "row 0 0 40, row 1 1 40, row 2 2 40, row 3 3 40, row 4 4 40, row 5 0 0, row 6 1 1, row 7 2 2";
        Edge.thinks("2: all SHELVES hold something", all, "status 10", 8);
    }

    private static void rowInPlaceOfAnother() {
        Edge.does("2: a new ROW", Edge.rowOf(0, 2, 5, 6), "row 0 2 2", 1, "element 0 0 = 0, element 0 1 = 0, status 10 = 1");
        Edge.does("2: a shorter one", Edge.rowOf(0, 2, 5, 6), "row 0 2 1", 1, "set 0 1 7 = -2, element 0 1 = 0");
        Edge.does("2: then a longer one", Edge.join(Edge.rowOf(0, 2, 5, 6), "row 0 2 0"), "row 0 2 2", 1,
            "element 0 0 = 0, element 0 1 = 0");
        Edge.does("2: of another SORT", Edge.rowOf(0, 3, 300), "row 0 0 1", 1, "holds 0 = 0, set 0 0 300 = 1, element 0 0 = 44");
        Edge.does("2: in place of a MULE", MULE + ", show 0 0", "row 0 1 1", 1, "holds 0 = 1, status 10 = 1, status 1 = 1");
        Edge.refuses("2: refused, the ROW stays", Edge.rowOf(0, 2, 5, 6), "row 0 2 41", -2);
        Edge.refuses("2: refused, the MULE stays", MULE + ", show 0 0", "row 0 5 1", -2);
    }

    private static void set() {
        Edge.does("3: the first SHELF", "row 0 2 1", "set 0 0 9", 1, "element 0 0 = 9");
        Edge.does("3: the last SHELF", "row 7 2 1", "set 7 0 9", 1, "element 7 0 = 9");
        Edge.refuses("3: below the first SHELF", "row 0 2 1", "set -1 0 9", -2);
        Edge.refuses("3: above the last SHELF", "row 7 2 1", "set 8 0 9", -2);
        Edge.refuses("3: a MULE", MULE + ", show 0 0", "set 0 0 9", -3);
        Edge.refuses("3: NOTHING", "", "set 0 0 9", -4);
        Edge.refuses("3: NOTHING any more", "row 0 2 1, show 0 -1", "set 0 0 9", -4);
        Edge.does("3: the first i", "row 0 2 3", "set 0 0 9", 1, "element 0 0 = 9, element 0 1 = 0, element 0 2 = 0");
        Edge.does("3: the last i", "row 0 2 3", "set 0 2 9", 1, "element 0 0 = 0, element 0 1 = 0, element 0 2 = 9");
        Edge.refuses("3: below the first i", "row 0 2 3", "set 0 -1 9", -2);
        Edge.refuses("3: above the last i", "row 0 2 3", "set 0 3 9", -2);
        Edge.refuses("3: an empty ROW", "row 0 2 0", "set 0 0 9", -2);
        Edge.does("3: the last i of a full ROW", "row 0 2 40", "set 0 39 9", 1, "element 0 39 = 9");
        Edge.refuses("3: above the last i of a full ROW", "row 0 2 40", "set 0 40 9", -2);
        Edge.refuses("3: BAD SHELF, and BAD i", "row 0 2 3", "set 8 3 9", -2);
        Edge.refuses("3: OTHER ahead of BAD i", MULE + ", show 0 0", "set 0 -1 9", -3);
        Edge.refuses("3: NOTHING ahead of BAD i", "", "set 0 40 9", -4);
        for (String far : new String[] {Edge.MIN, Edge.MAX}) {
            Edge.refuses("3: far", "row 0 2 3", "set" + far + " 0 9", -2);
            Edge.refuses("3: far", "row 0 2 3", "set 0" + far + " 9", -2);
        }
    }

    private static void keeps(String sentence, int sort, long v, long due) {
        Edge.does("3: " + sentence, "row 0 " + sort + " 2", "set 0 1 " + v, 1, "element 0 1 = " + due + ", element 0 0 = 0");
    }

    private static void bytesAndShorts() {
        keeps("the greatest byte", 0, 127, 127);
        keeps("above the greatest byte", 0, 128, -128);
        keeps("the least byte", 0, -128, -128);
        keeps("below the least byte", 0, -129, 127);
        keeps("all lowest bits of a byte", 0, 255, -1);
        keeps("none of the lowest bits of a byte", 0, 256, 0);
        keeps("a long as a byte", 0, Long.MAX_VALUE, -1);
        keeps("a long as a byte", 0, Long.MIN_VALUE, 0);
        keeps("the greatest short", 1, 32767, 32767);
        keeps("above the greatest short", 1, 32768, -32768);
        keeps("the least short", 1, -32768, -32768);
        keeps("below the least short", 1, -32769, 32767);
        keeps("all lowest bits of a short", 1, 65535, -1);
        keeps("none of the lowest bits of a short", 1, 65536, 0);
        keeps("a long as a short", 1, Long.MAX_VALUE, -1);
        keeps("a long as a short", 1, Long.MIN_VALUE, 0);
    }

    private static void intsLongsAndBooleans() {
        keeps("the greatest int", 2, 2147483647L, 2147483647L);
        keeps("above the greatest int", 2, 2147483648L, -2147483648L);
        keeps("the least int", 2, -2147483648L, -2147483648L);
        keeps("below the least int", 2, -2147483649L, 2147483647L);
        keeps("none of the lowest bits of an int", 2, 1L << 32, 0);
        keeps("a long as an int", 2, Long.MAX_VALUE, -1);
        keeps("a long as an int", 2, Long.MIN_VALUE, 0);
        keeps("the greatest long", 3, Long.MAX_VALUE, Long.MAX_VALUE);
        keeps("the least long", 3, Long.MIN_VALUE, Long.MIN_VALUE);
        keeps("a boolean that is 0", 4, 0, 0);
        keeps("a boolean that is not 0", 4, 1, 1);
        keeps("a boolean that is not 0", 4, 2, 1);
        keeps("a boolean that is not 0", 4, -1, 1);
        keeps("a boolean that is not 0", 4, 256, 1);
        keeps("a boolean that is not 0", 4, 1L << 32, 1);
        keeps("a boolean that is not 0", 4, Long.MIN_VALUE, 1);
        Edge.does("3: a boolean that is so no more", Edge.rowOf(0, 4, 1), "set 0 0 0", 1, "element 0 0 = 0");
    }

    private static void copyOfShelves() {
        String two = "row 0 2 2, row 7 2 2, " + MULE + ", show 1 0";
        Edge.does("4: from the first SHELF to the last", two, "copy 0 7 0 0 2", 2);
        Edge.does("4: from the last SHELF to the first", two, "copy 7 0 0 0 2", 2);
        Edge.refuses("4: below the first SHELF", two, "copy -1 0 0 0 1", -2);
        Edge.refuses("4: above the last SHELF", two, "copy 8 0 0 0 1", -2);
        Edge.refuses("4: below the first SHELF", two, "copy 0 -1 0 0 1", -2);
        Edge.refuses("4: above the last SHELF", two, "copy 0 8 0 0 1", -2);
        Edge.refuses("4: BAD SHELVES ahead of OTHER", two, "copy 1 8 0 0 1", -2);
        Edge.refuses("4: BAD SHELVES ahead of OTHER", two, "copy -1 1 0 0 1", -2);
        Edge.refuses("4: BAD SHELVES ahead of NOTHING", two, "copy 2 8 0 0 1", -2);
        Edge.refuses("4: BAD SHELVES ahead of NOTHING", two, "copy -1 2 0 0 1", -2);
        for (String far : new String[] {Edge.MIN, Edge.MAX}) {
            Edge.refuses("4: far", two, "copy" + far + " 0 0 0 1", -2);
            Edge.refuses("4: far", two, "copy 0" + far + " 0 0 1", -2);
            Edge.refuses("4: far", two, "copy 0 7" + far + " 0 1", -2);
            Edge.refuses("4: far", two, "copy 0 7 0" + far + " 1", -2);
            Edge.refuses("4: far", two, "copy 0 7 0 0" + far, -2);
            Edge.refuses("4: far", two, "copy 0 7" + far + far + far, -2);
        }
    }

    private static void copyOfOthers() {
        String held = "row 0 2 2, row 1 3 2, " + MULE + ", show 2 0, show 3 0";
        Edge.refuses("4: OTHER from", held, "copy 2 0 0 0 1", -3);
        Edge.refuses("4: OTHER to", held, "copy 0 2 0 0 1", -3);
        Edge.refuses("4: OTHER both", held, "copy 2 3 0 0 1", -3);
        Edge.refuses("4: OTHER, one SHELF", held, "copy 2 2 0 0 1", -3);
        Edge.refuses("4: OTHER ahead of NOTHING to", held, "copy 2 5 0 0 1", -3);
        Edge.refuses("4: OTHER ahead of NOTHING from", held, "copy 5 2 0 0 1", -3);
        Edge.refuses("4: ROWS of two SORTS", held, "copy 0 1 0 0 1", -3);
        Edge.refuses("4: ROWS of two SORTS", held, "copy 1 0 0 0 1", -3);
        Edge.refuses("4: ROWS of two SORTS, no elements", held, "copy 0 1 0 0 0", -3);
        Edge.refuses("4: ROWS of two SORTS ahead of BAD the others", held, "copy 0 1 -1 9 41", -3);
        Edge.refuses("4: OTHER ahead of BAD the others", held, "copy 2 0 -1 9 41", -3);
        Edge.refuses("4: NOTHING from", held, "copy 5 0 0 0 1", -4);
        Edge.refuses("4: NOTHING to", held, "copy 0 5 0 0 1", -4);
        Edge.refuses("4: NOTHING both", held, "copy 5 6 0 0 1", -4);
        Edge.refuses("4: NOTHING, one SHELF", held, "copy 5 5 0 0 0", -4);
        Edge.refuses("4: NOTHING ahead of BAD the others", held, "copy 0 5 -1 9 41", -4);
        for (int p = 0; p < 5; p++) {
            for (int q = 0; q < 5; q++) {
                String rows = "row 0 " + p + " 1, row 1 " + q + " 1";
                if (p == q) {
                    Edge.does("4: ROWS of one SORT", rows, "copy 0 1 0 0 1", 1);
                } else {
                    Edge.refuses("4: ROWS of SORTS " + p + " and " + q, rows, "copy 0 1 0 0 1", -3);
                }
            }
        }
    }

    private static void copyOfPlaces() {
        String rows = Edge.join(Edge.rowOf(0, 2, 1, 2, 3, 4), Edge.rowOf(1, 2, 5, 6, 7));
        Edge.does("4: as many as there are room for", rows, "copy 0 1 0 0 3", 3, "element 1 0 = 1, element 1 2 = 3");
        Edge.refuses("4: more than there is room for", rows, "copy 0 1 0 0 4", -2);
        Edge.does("4: as many as there are", rows, "copy 1 0 0 0 3", 3, "element 0 2 = 7, element 0 3 = 4");
        Edge.refuses("4: more than there are", rows, "copy 1 0 0 0 4", -2);
        Edge.does("4: none", rows, "copy 0 1 0 0 0", 0, "element 1 0 = 5");
        Edge.refuses("4: fewer than none", rows, "copy 0 1 0 0 -1", -2);
        Edge.does("4: the last i", rows, "copy 0 1 3 0 1", 1, "element 1 0 = 4, element 1 1 = 6");
        Edge.refuses("4: above the last i", rows, "copy 0 1 4 0 1", -2);
        Edge.refuses("4: below the first i", rows, "copy 0 1 -1 0 1", -2);
        Edge.does("4: the last j", rows, "copy 0 1 0 2 1", 1, "element 1 2 = 1, element 1 1 = 6");
        Edge.refuses("4: above the last j", rows, "copy 0 1 0 3 1", -2);
        Edge.refuses("4: below the first j", rows, "copy 0 1 0 -1 1", -2);
        Edge.does("4: up to the last of both", rows, "copy 0 1 2 1 2", 2, "element 1 0 = 5, element 1 1 = 3, element 1 2 = 4");
        Edge.refuses("4: one behind the last of p", rows, "copy 0 1 3 1 2", -2);
        Edge.refuses("4: one behind the last of q", rows, "copy 0 1 2 2 2", -2);
        Edge.does("4: none from just behind the last", rows, "copy 0 1 4 0 0", 0);
        Edge.does("4: none to just behind the last", rows, "copy 0 1 0 3 0", 0);
        Edge.refuses("4: none from further behind", rows, "copy 0 1 5 0 0", -2);
        Edge.refuses("4: none to further behind", rows, "copy 0 1 0 4 0", -2);
        Edge.refuses("4: none from below", rows, "copy 0 1 -1 0 0", -2);
        Edge.refuses("4: none to below", rows, "copy 0 1 0 -1 0", -2);
        Edge.refuses("4: i and n wrap around", rows, "copy 0 1" + Edge.MAX + " 0" + Edge.MAX, -2);
        Edge.refuses("4: j and n wrap around", rows, "copy 0 1 0" + Edge.MAX + Edge.MAX, -2);
        Edge.does("4: empty ROWS", "row 0 2 0, row 1 2 0", "copy 0 1 0 0 0", 0);
        Edge.refuses("4: empty ROWS", "row 0 2 0, row 1 2 0", "copy 0 1 0 0 1", -2);
        Edge.does("4: full ROWS", "row 0 2 40, row 1 2 40, set 0 39 8", "copy 0 1 0 0 40", 40, "element 1 39 = 8");
        Edge.refuses("4: one more than a full ROW", "row 0 2 40, row 1 2 40", "copy 0 1 0 0 41", -2);
    }

    private static void copyAsTheyWere() {
        String row = Edge.rowOf(0, 3, 1, 2, 3, 4);
        Edge.does("4: as they were, up", row, "copy 0 0 0 1 3", 3,
            "element 0 0 = 1, element 0 1 = 1, element 0 2 = 2, element 0 3 = 3");
        Edge.does("4: as they were, down", row, "copy 0 0 1 0 3", 3,
            "element 0 0 = 2, element 0 1 = 3, element 0 2 = 4, element 0 3 = 4");
        Edge.does("4: onto themselves", row, "copy 0 0 0 0 4", 4,
            "element 0 0 = 1, element 0 1 = 2, element 0 2 = 3, element 0 3 = 4");
        Edge.does("4: the other ROW stays", Edge.join(row, Edge.rowOf(1, 3, 9, 9)), "copy 0 1 1 0 2", 2,
            "element 0 1 = 2, element 0 2 = 3, element 1 0 = 2, element 1 1 = 3, set 1 0 7 = 1, element 0 1 = 2");
        Edge.does("4: booleans", Edge.join(Edge.rowOf(0, 4, 5, 0), Edge.rowOf(1, 4, 0, 1)), "copy 0 1 0 0 2", 2,
            "element 1 0 = 1, element 1 1 = 0");
    }

    private static void element() {
        String held = Edge.join(Edge.rowOf(0, 2, 8, 9), "row 1 2 0", MULE, "show 2 0");
        Edge.thinks("5: the first", held, "element 0 0", 8);
        Edge.thinks("5: the last", held, "element 0 1", 9);
        Edge.thinks("5: none, below", held, "element 0 -1", 0);
        Edge.thinks("5: none, above", held, "element 0 2", 0);
        Edge.thinks("5: none, an empty ROW", held, "element 1 0", 0);
        Edge.thinks("5: no ROW, a MULE", held, "element 2 0", 0);
        Edge.thinks("5: no ROW, NOTHING", held, "element 3 0", 0);
        Edge.thinks("5: no ROW, no SHELF", held, "element -1 0", 0);
        Edge.thinks("5: no ROW, no SHELF", held, "element 8 0", 0);
        Edge.thinks("5: the last of a full ROW", "row 0 2 40, set 0 39 6", "element 0 39", 6);
        Edge.thinks("5: above the last of a full ROW", "row 0 2 40, set 0 39 6", "element 0 40", 0);
        Edge.thinks("5: a ROW that is gone", Edge.rowOf(0, 2, 8, 9) + ", show 0 -1", "element 0 0", 0);
        Edge.thinks("5: a ROW that is gone", Edge.join(MULE, Edge.rowOf(0, 2, 8, 9), "show 0 0"), "element 0 0", 0);
        for (String far : new String[] {Edge.MIN, Edge.MAX}) {
            Edge.thinks("5: far", held, "element 0" + far, 0);
            Edge.thinks("5: far", held, "element" + far + " 0", 0);
        }
    }

    private static void holds() {
        Edge.thinks("6: NOTHING", "", "holds 0", -1);
        Edge.thinks("6: no SHELF", "row 0 0 1", "holds -1", -1);
        Edge.thinks("6: no SHELF", "row 7 0 1", "holds 8", -1);
        Edge.thinks("6: no SHELF, far", "", "holds" + Edge.MIN, -1);
        Edge.thinks("6: no SHELF, far", "", "holds" + Edge.MAX, -1);
        for (int sort = 0; sort <= 4; sort++) {
            Edge.thinks("6: a ROW", "row 7 " + sort + " 1", "holds 7", sort);
            Edge.thinks("6: an empty ROW", "row 7 " + sort + " 0", "holds 7", sort);
        }
        Edge.thinks("6: the first MULE", SIX + ", show 0 0", "holds 0", 10);
        Edge.thinks("6: the last MULE", SIX + ", show 0 5", "holds 0", 15);
        Edge.thinks("6: NOTHING again", SIX + ", show 0 5, show 0 -1", "holds 0", -1);
    }

    private static void show() {
        Edge.does("7: the first SHELF", MULE, "show 0 0", 1, "holds 0 = 10, status 10 = 1");
        Edge.does("7: the last SHELF", MULE, "show 7 0", 1, "holds 7 = 10, status 10 = 1");
        Edge.refuses("7: below the first SHELF", MULE, "show -1 0", -2);
        Edge.refuses("7: above the last SHELF", MULE, "show 8 0", -2);
        Edge.refuses("7: NONE, and no SHELF", MULE, "show 8 -1", -2);
        Edge.does("7: the last MULE", SIX, "show 0 5", 1, "holds 0 = 15");
        Edge.refuses("7: above the last MULE", SIX, "show 0 6", -2);
        Edge.refuses("7: above the only MULE", MULE, "show 0 1", -2);
        Edge.refuses("7: no MULES", "", "show 0 0", -2);
        Edge.refuses("7: below NONE", MULE, "show 0 -2", -2);
        Edge.does("7: NONE in place of a MULE", MULE + ", show 0 0", "show 0 -1", 1, "holds 0 = -1, status 10 = 0");
        Edge.does("7: NONE in place of a ROW", Edge.rowOf(0, 2, 8), "show 0 -1", 1, "holds 0 = -1, element 0 0 = 0");
        Edge.does("7: NONE in place of NOTHING", "", "show 0 -1", 1, "holds 0 = -1");
        Edge.does("7: a MULE in place of a ROW", Edge.rowOf(0, 2, 8) + ", " + MULE, "show 0 0", 1, "holds 0 = 10, element 0 0 = 0");
        Edge.does("7: one MULE in two SHELVES", MULE + ", show 0 0", "show 1 0", 1, "holds 0 = 10, holds 1 = 10, status 10 = 2");
        Edge.refuses("7: refused, the ROW stays", Edge.rowOf(0, 2, 8), "show 0 0", -2);
        for (String far : new String[] {Edge.MIN, Edge.MAX}) {
            Edge.refuses("7: far", MULE, "show" + far + " 0", -2);
            Edge.refuses("7: far", MULE, "show 0" + far, -2);
        }
    }

    private static void saysRefuses() {
        String held = MULE + ", show 0 0, show 7 0, row 1 0 1";
        Edge.thinks("8: the first SHELF", held, "says 0 0", 2);
        Edge.thinks("8: the last SHELF", held, "says 7 0", 2);
        Edge.refuses("8: below the first SHELF", held, "says -1 0", -2);
        Edge.refuses("8: above the last SHELF", held, "says 8 0", -2);
        Edge.refuses("8: below the first KIND", held, "says 0 -1", -2);
        Edge.refuses("8: above the last KIND", held, "says 0 6", -2);
        Edge.refuses("8: a ROW", held, "says 1 0", -3);
        Edge.refuses("8: NOTHING", held, "says 2 0", -4);
        Edge.refuses("8: NOTHING, of another KIND", held, "says 2 5", -4);
        Edge.refuses("8: BAD KIND ahead of OTHER", held, "says 1 6", -2);
        Edge.refuses("8: BAD KIND ahead of NOTHING", held, "says 2 -1", -2);
        for (String far : new String[] {Edge.MIN, Edge.MAX}) {
            Edge.refuses("8: far", held, "says" + far + " 0", -2);
            Edge.refuses("8: far", held, "says 0" + far, -2);
        }
    }

    /** Nothing is ahead: NUMBER, how long a STOP takes, no STONES, no CLIFFS, no INNS, NONE; or OTHER. */
    private static void saysOfKinds() {
        int[][] due = {
            {7, -3, -3, -3, -3, -3},
            {7, 5, -3, -3, -3, -3},
            {7, -3, 0, -3, -3, -3},
            {7, 5, -3, 0, -3, -3},
            {7, -3, -3, -3, 0, -3},
            {7, -3, 0, -3, -3, -1}};
        for (int is = 0; is < 6; is++) {
            for (int as = 0; as < 6; as++) {
                String which = "8: one of KIND " + is + " taken for one of " + as;
                String before = "mule " + is + " 7 4, show 3 0";
                if (due[is][as] == -3) {
                    Edge.refuses(which, before, "says 3 " + as, -3);
                } else {
                    Edge.thinks(which, before, "says 3 " + as, due[is][as]);
                }
            }
        }
        Edge.thinks("8: the least a", "mule 1 7 0, show 0 0", "says 0 1", 1);
        Edge.thinks("8: the greatest a", "mule 3 7 9, show 0 0", "says 0 1", 10);
        Edge.thinks("8: a NUMBER of 64", Edge.fill(1, 3, 1) + ", mule 4 13 0, show 0 0, goes 0 3", "says 0 0", 64);
    }

    private static void saysWhatIsAhead() {
        int[][] kindAndThing = {{2, 0}, {5, 0}, {3, 2}, {4, 1}};
        for (int[] pair : kindAndThing) {
            int as = pair[0] == 5 ? 2 : pair[0];
            String mule = "mule " + pair[0] + " 2 0, show 0 0";
            String which = "8: one of KIND " + pair[0];
            Edge.thinks(which + ": all of them", Edge.join("length 60", Edge.fill(0, 60, pair[1]), mule), "says 0 " + as, 60);
            Edge.thinks(which + ": where it is AT", Edge.join("put 9 " + pair[1] + " 1", mule, "stand 0 9 0"), "says 0 " + as, 0);
            Edge.thinks(which + ": just above AT", Edge.join("put 9 " + pair[1] + " 1", mule, "stand 0 8 0"), "says 0 " + as, 1);
            Edge.thinks(which + ": at the END", Edge.join("put 30 " + pair[1] + " 1", mule), "says 0 " + as, 1);
            Edge.thinks(which + ": AT the END", Edge.join(Edge.fill(0, 30, pair[1]), mule, "stand 0 30 0"), "says 0 " + as, 0);
        }
        String sure = "mule 5 2 0, show 0 0";
        Edge.thinks("8: the first INN of several", Edge.join("put 0 1 1, put 4 1 1, put 7 1 1", sure), "says 0 5", 4);
        Edge.thinks("8: an INN just above AT", Edge.join("put 4 1 1, put 5 1 1", sure, "stand 0 4 0"), "says 0 5", 5);
        Edge.thinks("8: an INN at the END of 60", Edge.join("length 60, put 60 1 1", sure), "says 0 5", 60);
        Edge.thinks("8: no INN above AT", Edge.join("put 4 1 1", sure, "stand 0 4 0"), "says 0 5", -1);
        Edge.thinks("8: no INN above the END", Edge.join("put 30 1 1", sure, "stand 0 30 0"), "says 0 5", -1);
    }
}
