import java.util.ArrayList;
import java.util.Arrays;
import java.util.HashMap;
import java.util.List;
import java.util.Map;

/**
 * The document said again as plainly as can be, without a thought for speed: lists instead of bits, a clock that
 * ticks, every pair of stones tried. The class is compared with it on many drawn runs.
 */
final class PlainModel {
    static final class M implements Cloneable {
        int kind;
        int number;
        int at;
        int count;
        int rested;
        int a;

        M twin() {
            M m = new M();
            m.kind = kind;
            m.number = number;
            m.at = at;
            m.count = count;
            m.rested = rested;
            m.a = a;
            return m;
        }
    }

    static final class State {
        int end = 30;
        boolean[][] there = new boolean[4][61];
        List<M> mules = new ArrayList<>();
        int slip = 0;
        int fell = 0;
        int seed = 1;

        State twin() {
            State s = new State();
            s.end = end;
            for (int w = 0; w < 4; w++) {
                s.there[w] = there[w].clone();
            }
            for (M m : mules) {
                s.mules.add(m.twin());
            }
            s.slip = slip;
            s.fell = fell;
            s.seed = seed;
            return s;
        }
    }

    /** A ROW has cells, a MULE a number, NOTHING neither. */
    static final class Held {
        int sort = -1;
        long[] cells;
        int mule = -1;
    }

    State st = new State();
    State image = null;
    Held[] shelves = new Held[8];
    StringBuilder tape = new StringBuilder();
    int[] refused = new int[5];

    PlainModel() {
        for (int i = 0; i < 8; i++) {
            shelves[i] = new Held();
        }
    }

    int no(int code) {
        refused[-code - 2]++;
        return code;
    }

    boolean badShelf(int s) {
        return s < 0 || s > 7;
    }

    boolean badMule(int m) {
        return m < 0 || m >= st.mules.size();
    }

    boolean badPlace(int p) {
        return p < 0 || p > st.end;
    }

    // shelves

    int row(int s, int sort, int n) {
        if (badShelf(s) || sort < 0 || sort > 4 || n < 0 || n > 40) {
            return no(-2);
        }
        Held h = new Held();
        h.sort = sort;
        h.cells = new long[n];
        shelves[s] = h;
        return 1;
    }

    int notRow(int s) {
        if (shelves[s].mule >= 0) {
            return -3;
        }
        return shelves[s].cells == null ? -4 : 0;
    }

    int set(int s, int i, long v) {
        if (badShelf(s)) {
            return no(-2);
        }
        if (notRow(s) != 0) {
            return no(notRow(s));
        }
        Held h = shelves[s];
        if (i < 0 || i >= h.cells.length) {
            return no(-2);
        }
        if (h.sort == 4) {
            h.cells[i] = v == 0 ? 0 : 1;
        } else {
            int lost = 64 - (8 << h.sort);
            h.cells[i] = v << lost >> lost;
        }
        return 1;
    }

    int copy(int p, int q, int i, int j, int n) {
        if (badShelf(p) || badShelf(q)) {
            return no(-2);
        }
        Held a = shelves[p];
        Held b = shelves[q];
        if (a.mule >= 0 || b.mule >= 0 || (a.cells != null && b.cells != null && a.sort != b.sort)) {
            return no(-3);
        }
        if (a.cells == null || b.cells == null) {
            return no(-4);
        }
        if (n < 0 || i < 0 || j < 0 || (long) i + n > a.cells.length || (long) j + n > b.cells.length) {
            return no(-2);
        }
        long[] was = a.cells.clone();
        for (int k = 0; k < n; k++) {
            b.cells[j + k] = was[i + k];
        }
        return n;
    }

    long element(int s, int i) {
        if (badShelf(s) || shelves[s].cells == null || i < 0 || i >= shelves[s].cells.length) {
            return 0;
        }
        return shelves[s].cells[i];
    }

    int holds(int s) {
        if (badShelf(s)) {
            return -1;
        }
        return shelves[s].mule >= 0 ? 10 + shelves[s].mule : shelves[s].sort;
    }

    int show(int s, int mule) {
        if (badShelf(s) || (mule != -1 && badMule(mule))) {
            return no(-2);
        }
        shelves[s] = new Held();
        shelves[s].mule = mule;
        return 1;
    }

    int says(int s, int kind) {
        if (badShelf(s) || kind < 0 || kind > 5) {
            return no(-2);
        }
        Held h = shelves[s];
        if (h.cells != null) {
            return no(-3);
        }
        if (h.mule < 0) {
            return no(-4);
        }
        M m = st.mules.get(h.mule);
        boolean fits = kind == 0 || kind == m.kind || (kind == 1 && m.kind == 3) || (kind == 2 && m.kind == 5);
        if (!fits) {
            return no(-3);
        }
        int stonesAhead = 0;
        int innsAhead = 0;
        int cliffsAhead = 0;
        int firstInn = -1;
        for (int p = m.at + 1; p <= st.end; p++) {
            stonesAhead += st.there[0][p] ? 1 : 0;
            innsAhead += st.there[1][p] ? 1 : 0;
            cliffsAhead += st.there[2][p] ? 1 : 0;
            if (firstInn < 0 && st.there[1][p]) {
                firstInn = p;
            }
        }
        return new int[] {m.number, 1 + m.a, stonesAhead, cliffsAhead, innsAhead, firstInn}[kind];
    }

    // the pass

    int length(int n) {
        if (n < 1 || n > 60) {
            return no(-2);
        }
        if (!st.mules.isEmpty() || anyAbove(st, n)) {
            return no(-5);
        }
        int was = st.end;
        st.end = n;
        return was;
    }

    static boolean anyAbove(State s, int n) {
        for (int w = 0; w < 4; w++) {
            for (int p = n + 1; p <= 60; p++) {
                if (s.there[w][p]) {
                    return true;
                }
            }
        }
        return false;
    }

    int put(int place, int what, boolean is) {
        if (badPlace(place) || what < 0 || what > 3) {
            return no(-2);
        }
        if (is && what >= 2 && st.there[5 - what][place]) {
            return no(-5);
        }
        boolean was = st.there[what][place];
        st.there[what][place] = is;
        return was == is ? 0 : 1;
    }

    int mule(int kind, int number, int a) {
        if (kind < 0 || kind > 5 || number < 2 || number > 13 || a < 0 || a > 9) {
            return no(-2);
        }
        if (st.mules.size() == 6) {
            return no(-6);
        }
        M m = new M();
        m.kind = kind;
        m.number = number;
        m.a = a;
        st.mules.add(m);
        return st.mules.size() - 1;
    }

    int stand(int mule, int place, int count) {
        if (badMule(mule) || badPlace(place) || count < 0 || count >= st.mules.get(mule).number) {
            return no(-2);
        }
        M m = st.mules.get(mule);
        int was = m.at;
        m.at = place;
        m.count = count;
        return was;
    }

    int teach(int mule, int v) {
        if (badMule(mule) || v < 2 || v > 13) {
            return no(-2);
        }
        M m = st.mules.get(mule);
        int was = m.number;
        m.number = v;
        m.count = 0;
        return was;
    }

    int slip(int v) {
        if (v < 0 || v > 1000) {
            return no(-2);
        }
        int was = st.slip;
        st.slip = v;
        return was;
    }

    int feed(int letter) {
        if (letter < 0 || letter > 255) {
            return no(-2);
        }
        if (tape.length() == 250) {
            return no(-6);
        }
        tape.append((char) letter);
        return tape.length();
    }

    int wipe() {
        int was = tape.length();
        tape.setLength(0);
        return was;
    }

    int pass() {
        String text = tape.toString();
        tape.setLength(0);
        State s = st.twin();
        int got = new Parser(text, s).parse();
        if (got < 0) {
            refused[0]++;
            return -20 - (-got - 1);
        }
        st = s;
        return got;
    }

    /** Answers how many statements, or -1 less the fault. */
    static final class Parser {
        final List<String> tokens = new ArrayList<>();
        final List<Integer> places = new ArrayList<>();
        final State s;
        final int size;
        int k = 0;

        Parser(String text, State s) {
            this.s = s;
            size = text.length();
            java.util.regex.Matcher m = java.util.regex.Pattern.compile("[a-z]+|[0-9]+|[^ ]", java.util.regex.Pattern.DOTALL).matcher(text);
            while (m.find()) {
                tokens.add(m.group());
                places.add(m.start());
            }
        }

        String peek() {
            return k < tokens.size() ? tokens.get(k) : "";
        }

        int fault() {
            return -1 - (k < tokens.size() ? places.get(k) : size);
        }

        /** -1 if it can't be. */
        int number(int low, int high) {
            String t = peek();
            if (!t.matches("[0-9]{1,2}") || Integer.parseInt(t) < low || Integer.parseInt(t) > high) {
                return -1;
            }
            k++;
            return Integer.parseInt(t);
        }

        int parse() {
            for (int told = 1;; told++) {
                if (!statement()) {
                    return fault();
                }
                if (k == tokens.size()) {
                    return told;
                }
                if (!peek().equals(";")) {
                    return fault();
                }
                k++;
            }
        }

        boolean statement() {
            String word = peek();
            int what = Arrays.asList("stone", "inn", "cliff", "view").indexOf(word);
            if (what >= 0) {
                k++;
                int p = number(0, s.end);
                if (p < 0) {
                    return false;
                }
                if (what >= 2 && s.there[5 - what][p]) {
                    k--;
                    return false;
                }
                s.there[what][p] = true;
                return true;
            }
            if (word.equals("length")) {
                if (!s.mules.isEmpty()) {
                    return false;
                }
                k++;
                int n = number(1, 60);
                if (n < 0) {
                    return false;
                }
                if (anyAbove(s, n)) {
                    k--;
                    return false;
                }
                s.end = n;
                return true;
            }
            return word.equals("mule") && muleStatement();
        }

        boolean muleStatement() {
            if (s.mules.size() == 6) {
                return false;
            }
            k++;
            M m = new M();
            m.kind = number(0, 5);
            if (m.kind < 0) {
                return false;
            }
            m.number = number(2, 13);
            if (m.number < 0) {
                return false;
            }
            m.a = number(0, 9);
            if (m.a < 0) {
                return false;
            }
            if (peek().equals("at")) {
                k++;
                m.at = number(0, s.end);
                if (m.at < 0) {
                    return false;
                }
            }
            if (peek().equals("count")) {
                k++;
                m.count = number(0, m.number - 1);
                if (m.count < 0) {
                    return false;
                }
            }
            s.mules.add(m);
            return true;
        }
    }

    int muleOf(int mule, int what) {
        if (badMule(mule) || what < 0 || what > 5) {
            return no(-2);
        }
        M m = st.mules.get(mule);
        return new int[] {m.kind, m.number, m.at, m.count, m.rested, m.a}[what];
    }

    int placeOf(int place) {
        if (badPlace(place)) {
            return no(-2);
        }
        int all = 0;
        for (int w = 0; w < 4; w++) {
            all += st.there[w][place] ? 1 << w : 0;
        }
        return all;
    }

    // steps

    static boolean step(State s, M m, boolean slips) {
        m.at++;
        m.count++;
        if (s.there[0][m.at] && m.kind != 2 && m.kind != 5) {
            m.count++;
        }
        if (slips) {
            m.count++;
        }
        boolean stops = m.count >= m.number;
        if (m.kind == 3 && s.there[2][m.at]) {
            stops = false;
        }
        if (m.kind == 5 && s.there[1][m.at]) {
            stops = true;
        }
        if (stops) {
            m.count = 0;
        }
        if (m.kind == 4 && s.there[1][m.at]) {
            m.number = Math.min(64, m.number * 2);
        }
        return stops;
    }

    static boolean turnOf(State s, M m) {
        m.count++;
        if (m.count < m.number || (m.kind == 3 && s.there[2][m.at])) {
            return false;
        }
        m.count = 0;
        return true;
    }

    static int rest(M m) {
        return m.kind == 1 || m.kind == 3 ? 1 + m.a : 1;
    }

    static List<Integer> journey(State s, M of) {
        M m = of.twin();
        List<Integer> list = new ArrayList<>();
        while (m.at < s.end) {
            if (step(s, m, false)) {
                list.add(m.at);
            }
        }
        return list;
    }

    static boolean goodBy(State s, int at, List<Integer> stops) {
        for (int p : stops) {
            if (s.there[2][p]) {
                return false;
            }
        }
        for (int p = at + 1; p <= s.end; p++) {
            if (s.there[3][p] && !stops.contains(p)) {
                return false;
            }
        }
        return true;
    }

    int stops(int mule, int i) {
        if (badMule(mule) || i < -1) {
            return no(-2);
        }
        List<Integer> list = journey(st, st.mules.get(mule));
        if (i == -1) {
            return list.size();
        }
        return i < list.size() ? list.get(i) : no(-5);
    }

    int minutesOf(M m) {
        return st.end - m.at + rest(m) * journey(st, m).size();
    }

    int minutes(int mule) {
        return badMule(mule) ? no(-2) : minutesOf(st.mules.get(mule));
    }

    /** Where it is at each minute 0 to 400, by a clock that ticks. */
    int[] clock(M of) {
        M m = of.twin();
        int[] where = new int[401];
        int resting = 0;
        where[0] = m.at;
        for (int t = 1; t <= 400; t++) {
            if (resting > 0) {
                resting--;
            } else if (m.at < st.end && step(st, m, false)) {
                resting = rest(m);
            }
            where[t] = m.at;
        }
        return where;
    }

    int after(int mule, int t) {
        return badMule(mule) || t < 0 || t > 400 ? no(-2) : clock(st.mules.get(mule))[t];
    }

    int good(int mule) {
        if (badMule(mule)) {
            return no(-2);
        }
        M m = st.mules.get(mule);
        return goodBy(st, m.at, journey(st, m)) ? 1 : 0;
    }

    int falls(int mule) {
        if (badMule(mule)) {
            return no(-2);
        }
        for (int p : journey(st, st.mules.get(mule))) {
            if (st.there[2][p]) {
                return p;
            }
        }
        return -1;
    }

    int missed(int mule) {
        if (badMule(mule)) {
            return no(-2);
        }
        M m = st.mules.get(mule);
        List<Integer> list = journey(st, m);
        int n = 0;
        for (int p = m.at + 1; p <= st.end; p++) {
            n += st.there[3][p] && !list.contains(p) ? 1 : 0;
        }
        return n;
    }

    int turns(int mule, int place) {
        if (badMule(mule) || (place != -1 && badPlace(place))) {
            return no(-2);
        }
        M m = st.mules.get(mule);
        int[] rowOf = bestTurns(m.twin(), m.at, true, new HashMap<>());
        if (rowOf == null) {
            return -1;
        }
        if (place == -1) {
            return Arrays.stream(rowOf).sum();
        }
        return rowOf[place];
    }

    /** The best row of TURNS from where m is, or null; stopped: what is here needn't be seen any more. */
    int[] bestTurns(M m, int start, boolean stopped, Map<String, int[]> known) {
        boolean seen = stopped || !st.there[3][m.at];
        if (m.at == st.end) {
            return seen ? new int[61] : null;
        }
        String key = m.at + " " + m.count + " " + m.number + " " + stopped;
        if (known.containsKey(key)) {
            return known.get(key);
        }
        int[] best = null;
        M turned = m.twin();
        for (int k = 0; k <= 3; k++) {
            if (k > 0 && turnOf(st, turned)) {
                if (st.there[2][m.at]) {
                    break;
                }
                seen = true;
            }
            M on = turned.twin();
            boolean stops = step(st, on, false);
            if (!seen || (stops && st.there[2][on.at])) {
                continue;
            }
            int[] rest = bestTurns(on, start, stops, known);
            if (rest != null) {
                int[] all = rest.clone();
                all[m.at] = k;
                if (best == null || Arrays.stream(all).sum() < Arrays.stream(best).sum()) {
                    best = all;
                }
            }
        }
        known.put(key, best);
        return best;
    }

    int roped(int mule, int other, int what) {
        if (badMule(mule) || badMule(other) || mule == other || what < 0 || what > 1) {
            return no(-2);
        }
        M m = st.mules.get(mule).twin();
        M o = st.mules.get(other).twin();
        int start = Math.max(m.at, o.at);
        m.at = start;
        o.at = start;
        int places = 0;
        int both = -1;
        while (m.at < st.end) {
            boolean x = step(st, m, false);
            boolean y = step(st, o, false);
            places += x || y ? 1 : 0;
            if (x && y && both < 0) {
                both = m.at;
            }
        }
        return what == 0 ? places : both;
    }

    int meets(int mule, int other) {
        if (badMule(mule) || badMule(other) || mule == other) {
            return no(-2);
        }
        int[] x = clock(st.mules.get(mule));
        int[] y = clock(st.mules.get(other));
        for (int t = 0; t <= 400; t++) {
            if (x[t] == y[t]) {
                return t;
            }
        }
        return -1;
    }

    int last() {
        int found = -1;
        for (int i = 0; i < st.mules.size(); i++) {
            if (found < 0 || minutesOf(st.mules.get(i)) > minutesOf(st.mules.get(found))) {
                found = i;
            }
        }
        return found < 0 ? no(-5) : found;
    }

    int train(int s, int n) {
        if (badShelf(s) || n < 1 || n > 6) {
            return no(-2);
        }
        if (notRow(s) != 0) {
            return no(notRow(s));
        }
        long[] cells = shelves[s].cells;
        if (cells.length < n) {
            return no(-2);
        }
        List<Long> seen = new ArrayList<>();
        List<M> all = new ArrayList<>();
        int start = 0;
        for (int i = 0; i < n; i++) {
            if (cells[i] < 0 || cells[i] >= st.mules.size() || seen.contains(cells[i])) {
                return no(-2);
            }
            seen.add(cells[i]);
            all.add(st.mules.get((int) cells[i]).twin());
            start = Math.max(start, all.get(i).at);
        }
        for (M m : all) {
            m.at = start;
        }
        int places = 0;
        for (int p = start + 1; p <= st.end; p++) {
            int stopping = 0;
            for (M m : all) {
                stopping += step(st, m, false) ? 1 : 0;
            }
            places += stopping > 0 ? 1 : 0;
        }
        return places;
    }

    int crowdAt(int place) {
        int n = 0;
        for (M m : st.mules) {
            n += journey(st, m).contains(place) ? 1 : 0;
        }
        return n;
    }

    int crowd(int place) {
        return badPlace(place) ? no(-2) : crowdAt(place);
    }

    int best(int i) {
        if (i < 0 || i > 9) {
            return no(-2);
        }
        List<Integer> list = new ArrayList<>();
        for (int p = 0; p <= st.end; p++) {
            if (crowdAt(p) > 0) {
                list.add(p);
            }
        }
        list.sort((x, y) -> crowdAt(x) != crowdAt(y) ? crowdAt(y) - crowdAt(x) : x - y);
        return i < list.size() ? list.get(i) : no(-5);
    }

    boolean noneFalls() {
        for (M m : st.mules) {
            for (int p : journey(st, m)) {
                if (st.there[2][p]) {
                    return false;
                }
            }
        }
        return true;
    }

    /** The places of the new stones; null if two don't do. */
    int[] newStones() {
        if (noneFalls()) {
            return new int[0];
        }
        boolean[] stone = st.there[0];
        for (int p = 1; p <= st.end; p++) {
            if (!stone[p]) {
                stone[p] = true;
                boolean fine = noneFalls();
                stone[p] = false;
                if (fine) {
                    return new int[] {p};
                }
            }
        }
        for (int p = 1; p <= st.end; p++) {
            for (int q = p + 1; q <= st.end; q++) {
                if (!stone[p] && !stone[q]) {
                    stone[p] = true;
                    stone[q] = true;
                    boolean fine = noneFalls();
                    stone[p] = false;
                    stone[q] = false;
                    if (fine) {
                        return new int[] {p, q};
                    }
                }
            }
        }
        return null;
    }

    int stones(int what) {
        if (what < -1 || what > 1) {
            return no(-2);
        }
        int[] places = newStones();
        if (places == null) {
            return -1;
        }
        if (what == -1) {
            return places.length;
        }
        return what < places.length ? places[what] : no(-5);
    }

    int numbers(int s, int n, int what) {
        if (badShelf(s) || n < 1 || n > 40 || what < 0 || what > 1) {
            return no(-2);
        }
        if (notRow(s) != 0) {
            return no(notRow(s));
        }
        long[] cells = shelves[s].cells;
        if (cells.length < n) {
            return no(-2);
        }
        List<Integer> told = new ArrayList<>();
        for (int i = 0; i < n; i++) {
            if (cells[i] < 1 || cells[i] > st.end || (i > 0 && cells[i] <= cells[i - 1])) {
                return no(-2);
            }
            told.add((int) cells[i]);
        }
        int pairs = 0;
        int bits = 0;
        for (int number = 2; number <= 13; number++) {
            for (int count = 0; count < number; count++) {
                M m = new M();
                m.number = number;
                m.count = count;
                List<Integer> would = journey(st, m);
                would.removeIf(p -> p > told.get(told.size() - 1));
                if (would.equals(told)) {
                    pairs++;
                    bits |= 1 << number;
                }
            }
        }
        return what == 0 ? pairs : bits;
    }

    int sure(int mule, int f) {
        if (badMule(mule) || f < 0 || f > 1000) {
            return no(-2);
        }
        M m = st.mules.get(mule);
        Map<Integer, Long> with = new HashMap<>();
        with.put(m.count, 1000000L);
        for (int p = m.at + 1; p <= st.end; p++) {
            Map<Integer, Long> then = new HashMap<>();
            for (Map.Entry<Integer, Long> e : with.entrySet()) {
                long slipping = e.getValue() * f / 1000;
                for (int slips = 0; slips < 2; slips++) {
                    int count = e.getKey() + 1 + slips + (st.there[0][p] ? 1 : 0);
                    long many = slips == 1 ? slipping : e.getValue() - slipping;
                    if (count >= m.number && st.there[2][p]) {
                        continue;
                    }
                    then.merge(count >= m.number ? 0 : count, many, Long::sum);
                }
            }
            with = then;
        }
        long all = 0;
        for (long v : with.values()) {
            all += v;
        }
        return (int) all;
    }

    int judge(int s, int n, int mule) {
        if (badShelf(s) || n < 0 || n > 40 || badMule(mule)) {
            return no(-2);
        }
        if (notRow(s) != 0) {
            return no(notRow(s));
        }
        if (shelves[s].cells.length < n) {
            return no(-2);
        }
        List<Integer> list = journey(st, st.mules.get(mule));
        for (int i = 0; i < n; i++) {
            if (i >= list.size() || list.get(i) != shelves[s].cells[i]) {
                return i;
            }
        }
        return list.size() > n ? n : -1;
    }

    int fallsOf(M m) {
        int n = 0;
        for (int p : journey(st, m)) {
            n += st.there[2][p] ? 1 : 0;
        }
        return n;
    }

    int worst() {
        int found = -1;
        for (int i = 0; i < st.mules.size(); i++) {
            if (found < 0 || fallsOf(st.mules.get(i)) > fallsOf(st.mules.get(found))) {
                found = i;
            }
        }
        return found < 0 ? no(-5) : found;
    }

    int lucky(int mule) {
        if (badMule(mule)) {
            return no(-2);
        }
        for (int number = 2; number <= 13; number++) {
            M m = st.mules.get(mule).twin();
            m.number = number;
            m.count = 0;
            if (goodBy(st, m.at, journey(st, m))) {
                return number;
            }
        }
        return -1;
    }

    // in truth

    void stopped(M m) {
        m.rested += rest(m);
        st.fell += st.there[2][m.at] ? 1 : 0;
    }

    int goes(int mule, int n) {
        if (badMule(mule) || n < 1 || n > 60) {
            return no(-2);
        }
        M m = st.mules.get(mule);
        for (int i = 0; i < n && m.at < st.end; i++) {
            if (step(st, m, false)) {
                stopped(m);
            }
        }
        return m.at;
    }

    int turn(int mule) {
        if (badMule(mule)) {
            return no(-2);
        }
        M m = st.mules.get(mule);
        if (m.at == st.end) {
            return no(-5);
        }
        if (!turnOf(st, m)) {
            return 0;
        }
        stopped(m);
        return 1;
    }

    int day() {
        int before = st.fell;
        for (M m : st.mules) {
            while (m.at < st.end) {
                st.seed = st.seed * 1103515245 + 12345;
                int drawn = (st.seed >> 16 & 0xffff) % 1000;
                if (step(st, m, drawn < st.slip)) {
                    stopped(m);
                }
            }
        }
        return st.fell - before;
    }

    int home() {
        int n = 0;
        for (M m : st.mules) {
            n += m.at != 0 ? 1 : 0;
            m.at = 0;
            m.count = 0;
        }
        return n;
    }

    int seed(int v) {
        int was = st.seed;
        st.seed = v;
        return was;
    }

    int image() {
        image = st.twin();
        return 1;
    }

    int back() {
        if (image == null) {
            return no(-5);
        }
        st = image.twin();
        for (Held h : shelves) {
            if (h.mule >= st.mules.size()) {
                h.mule = -1;
            }
        }
        return 1;
    }

    int status(int what) {
        if (what >= 12 && what <= 16) {
            return refused[what - 12];
        }
        if (what >= 2 && what <= 5) {
            int n = 0;
            for (boolean b : st.there[what - 2]) {
                n += b ? 1 : 0;
            }
            return n;
        }
        switch (what) {
            case 0:
                return st.end;
            case 1:
                return st.mules.size();
            case 6:
                return st.slip;
            case 7:
                return st.fell;
            case 8:
                return tape.length();
            case 9:
                return st.seed;
            case 10:
                int n = 0;
                for (Held h : shelves) {
                    n += h.mule >= 0 || h.cells != null ? 1 : 0;
                }
                return n;
            default:
                return -1;
        }
    }
}
