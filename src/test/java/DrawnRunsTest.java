import java.util.Random;

/** Drawn runs of calls, each answer compared with that of the plain model. */
public final class DrawnRunsTest {
    private static final int RUNS = 4000;
    /** What the document allows, and what compareState takes of it at most. */
    private static final int MOST_CALLS = 512;
    private static final int LOOK = 202;
    private static final int METHODS = 46;

    private final Random draws;
    private final NinthStep x = new NinthStep();
    private final PlainModel y = new PlainModel();
    private final StringBuilder told = new StringBuilder();
    private int calls;

    private DrawnRunsTest(long seed) {
        draws = new Random(seed);
    }

    public static void main(String[] args) {
        for (int run = 0; run < RUNS && !Due.anyWrong(); run++) {
            new DrawnRunsTest(run).go();
        }
        Due.end();
    }

    private void go() {
        setUp();
        while (hasRoomFor(8) && !Due.anyWrong()) {
            call(draws.nextInt(METHODS));
        }
        compareState();
        Due.is("calls of a run beyond those that the document allows", Math.max(0, calls - MOST_CALLS), 0);
        if (Due.anyWrong()) {
            System.out.println("the run: " + told);
        }
    }

    private boolean hasRoomFor(int more) {
        return calls + more + LOOK <= MOST_CALLS;
    }

    private void due(String call, long got, long want) {
        calls++;
        told.append(call).append(' ').append(got).append('\n');
        Due.is(call, got, want);
    }

    /** low to high, and now and then something just outside, or far. */
    private int in(int low, int high) {
        int luck = draws.nextInt(60);
        if (luck == 0) {
            return low - 1;
        }
        if (luck == 1) {
            return high + 1;
        }
        if (luck == 2) {
            return draws.nextBoolean() ? Integer.MIN_VALUE : Integer.MAX_VALUE;
        }
        return low + draws.nextInt(high - low + 1);
    }

    private int aMule() {
        return in(0, Math.max(0, y.st.mules.size() - 1));
    }

    private int aPlace() {
        return in(0, y.st.end);
    }

    private int aShelf() {
        return draws.nextInt(3) > 0 ? in(0, 1) : in(0, 7);
    }

    private void setUp() {
        if (draws.nextInt(3) > 0) {
            int n = 1 + draws.nextInt(60);
            due("length " + n, x.length(n), y.length(n));
        }
        int marks = draws.nextInt(25);
        for (int i = 0; i < marks; i++) {
            putSomething();
        }
        int mules = draws.nextInt(7);
        for (int i = 0; i < mules; i++) {
            newMule();
        }
    }

    private void putSomething() {
        int place = aPlace();
        int what = in(0, 3);
        boolean is = draws.nextInt(4) > 0;
        due("put " + place + " " + what + " " + is, x.put(place, what, is), y.put(place, what, is));
    }

    private void newMule() {
        int kind = in(0, 5);
        int number = in(2, 13);
        int a = in(0, 9);
        due("mule " + kind + " " + number + " " + a, x.mule(kind, number, a), y.mule(kind, number, a));
    }

    private void call(int which) {
        if (which < 16) {
            callToMake(which);
        } else if (which < 30) {
            callToAskOne(which);
        } else {
            callToAskAll(which);
        }
    }

    private void callToMake(int which) {
        int s = aShelf();
        int t = aShelf();
        int m = aMule();
        int p = aPlace();
        int i = in(0, 7);
        int j = in(0, 7);
        int n = in(0, 7);
        switch (which) {
            case 0: {
                int sort = in(0, 4);
                int many = draws.nextInt(3) == 0 ? in(0, 40) : in(0, 9);
                due("row " + s + " " + sort + " " + many, x.row(s, sort, many), y.row(s, sort, many));
                break;
            }
            case 1: {
                long v = draws.nextInt(4) == 0 ? draws.nextLong() : draws.nextInt(y.st.end + 3) - 1;
                due("set " + s + " " + i + " " + v, x.set(s, i, v), y.set(s, i, v));
                break;
            }
            case 2:
                due("copy " + s + " " + t + " " + i + " " + j + " " + n, x.copy(s, t, i, j, n), y.copy(s, t, i, j, n));
                break;
            case 3:
                due("element " + s + " " + i, x.element(s, i), y.element(s, i));
                break;
            case 4:
                due("holds " + s, x.holds(s), y.holds(s));
                break;
            case 5: {
                int shown = draws.nextInt(5) == 0 ? -1 : m;
                due("show " + s + " " + shown, x.show(s, shown), y.show(s, shown));
                break;
            }
            case 6: {
                int kind = in(0, 5);
                due("says " + s + " " + kind, x.says(s, kind), y.says(s, kind));
                break;
            }
            case 7: {
                int end = in(1, 60);
                due("length " + end, x.length(end), y.length(end));
                break;
            }
            case 8:
                putSomething();
                break;
            case 9:
                newMule();
                break;
            case 10: {
                int count = in(0, 12);
                due("stand " + m + " " + p + " " + count, x.stand(m, p, count), y.stand(m, p, count));
                break;
            }
            case 11: {
                int v = in(2, 13);
                due("teach " + m + " " + v, x.teach(m, v), y.teach(m, v));
                break;
            }
            case 12: {
                int v = in(0, 1000);
                due("slip " + v, x.slip(v), y.slip(v));
                break;
            }
            case 13: {
                int letter = in(0, 255);
                due("feed " + letter, x.feed(letter), y.feed(letter));
                break;
            }
            case 14:
                due("wipe", x.wipe(), y.wipe());
                break;
            default:
                readSomething();
                break;
        }
    }

    private void readSomething() {
        String[] words = {"length", "stone", "inn", "cliff", "view", "mule", "at", "count", "mules", "A", ";", "007"};
        StringBuilder text = new StringBuilder();
        int statements = 1 + draws.nextInt(4);
        for (int i = 0; i < statements; i++) {
            text.append(i > 0 ? draws.nextInt(4) == 0 ? " ; " : ";" : "");
            appendStatement(text);
        }
        if (draws.nextInt(4) == 0) {
            text.append(' ').append(words[draws.nextInt(words.length)]);
        }
        if (draws.nextInt(8) == 0) {
            text.setLength(draws.nextInt(text.length() + 1));
        }
        if (!hasRoomFor(text.length() + 2)) {
            return;
        }
        due("wipe", x.wipe(), y.wipe());
        for (int i = 0; i < text.length() && i < 260; i++) {
            due("feed", x.feed(text.charAt(i)), y.feed(text.charAt(i)));
        }
        due("pass of \"" + text + "\"", x.pass(), y.pass());
    }

    private void appendStatement(StringBuilder text) {
        int which = draws.nextInt(7);
        String[] marks = {"stone", "inn", "cliff", "view"};
        if (which < 4) {
            text.append(marks[which]).append(draws.nextBoolean() ? " " : "").append(in(0, y.st.end));
        } else if (which == 4) {
            text.append("length ").append(in(1, 60));
        } else {
            text.append("mule ").append(in(0, 5)).append(' ').append(in(2, 13)).append("  ").append(in(0, 9));
            text.append(draws.nextBoolean() ? "at " + in(0, y.st.end) : "");
            text.append(draws.nextBoolean() ? " count" + in(0, 4) : "");
        }
    }

    private void callToAskOne(int which) {
        int m = aMule();
        int o = aMule();
        int p = draws.nextInt(3) == 0 ? -1 : aPlace();
        switch (which) {
            case 16: {
                int what = in(0, 5);
                due("muleOf " + m + " " + what, x.muleOf(m, what), y.muleOf(m, what));
                break;
            }
            case 17:
                due("placeOf " + p, x.placeOf(p), y.placeOf(p));
                break;
            case 18: {
                int i = in(-1, 6);
                due("stops " + m + " " + i, x.stops(m, i), y.stops(m, i));
                break;
            }
            case 19:
                due("minutes " + m, x.minutes(m), y.minutes(m));
                break;
            case 20: {
                int t = draws.nextBoolean() ? in(0, 400) : in(0, 80);
                due("after " + m + " " + t, x.after(m, t), y.after(m, t));
                break;
            }
            case 21:
                due("good " + m, x.good(m), y.good(m));
                break;
            case 22:
                due("falls " + m, x.falls(m), y.falls(m));
                break;
            case 23:
                due("missed " + m, x.missed(m), y.missed(m));
                break;
            case 24:
                due("turns " + m + " " + p, x.turns(m, p), y.turns(m, p));
                break;
            case 25: {
                int what = in(0, 1);
                due("roped " + m + " " + o + " " + what, x.roped(m, o, what), y.roped(m, o, what));
                break;
            }
            case 26:
                due("meets " + m + " " + o, x.meets(m, o), y.meets(m, o));
                break;
            case 27: {
                int f = in(0, 1000);
                due("sure " + m + " " + f, x.sure(m, f), y.sure(m, f));
                break;
            }
            case 28:
                due("lucky " + m, x.lucky(m), y.lucky(m));
                break;
            default:
                due("turn " + m, x.turn(m), y.turn(m));
                break;
        }
    }

    private void callToAskAll(int which) {
        int s = aShelf();
        int m = aMule();
        switch (which) {
            case 30:
                due("last", x.last(), y.last());
                break;
            case 31: {
                tell(s, false);
                int n = in(1, 6);
                due("train " + s + " " + n, x.train(s, n), y.train(s, n));
                break;
            }
            case 32: {
                int p = aPlace();
                due("crowd " + p, x.crowd(p), y.crowd(p));
                break;
            }
            case 33: {
                int i = in(0, 9);
                due("best " + i, x.best(i), y.best(i));
                break;
            }
            case 34: {
                int what = in(-1, 1);
                due("stones " + what, x.stones(what), y.stones(what));
                break;
            }
            case 35: {
                tell(s, true);
                int n = in(1, 4);
                int what = in(0, 1);
                due("numbers " + s + " " + n + " " + what, x.numbers(s, n, what), y.numbers(s, n, what));
                break;
            }
            case 36: {
                tell(s, true);
                int n = in(0, 6);
                due("judge " + s + " " + n + " " + m, x.judge(s, n, m), y.judge(s, n, m));
                break;
            }
            case 37:
                due("worst", x.worst(), y.worst());
                break;
            case 38: {
                int n = in(1, draws.nextInt(3) == 0 ? 60 : 5);
                due("goes " + m + " " + n, x.goes(m, n), y.goes(m, n));
                break;
            }
            case 39:
                due("day", x.day(), y.day());
                break;
            case 40:
                due("home", x.home(), y.home());
                break;
            case 41: {
                int v = draws.nextInt();
                due("seed " + v, x.seed(v), y.seed(v));
                break;
            }
            case 42:
                due("image", x.image(), y.image());
                break;
            case 43:
                if (draws.nextInt(4) == 0) {
                    due("back", x.back(), y.back());
                }
                break;
            case 44: {
                int what = in(0, 17);
                due("status " + what, x.status(what), y.status(what));
                break;
            }
            default:
                if (hasRoomFor(LOOK)) {
                    compareState();
                }
                break;
        }
    }

    /** Sometimes puts the STOPS of a MULE, or the MULES in a drawn order, into a ROW. */
    private void tell(int s, boolean stops) {
        if (draws.nextInt(3) == 0 || y.st.mules.isEmpty()) {
            return;
        }
        due("row " + s, x.row(s, 3, 6), y.row(s, 3, 6));
        int shift = draws.nextInt(6);
        java.util.List<Integer> list = PlainModel.journey(y.st, y.st.mules.get(draws.nextInt(y.st.mules.size())));
        for (int i = 0; i < 6; i++) {
            long v = (i + shift) % y.st.mules.size();
            if (stops) {
                v = i < list.size() ? list.get(i) : 0;
                v += draws.nextInt(20) == 0 ? 1 : 0;
            }
            due("set " + s + " " + i + " " + v, x.set(s, i, v), y.set(s, i, v));
        }
    }

    private void compareState() {
        for (int what = 0; what <= 16; what++) {
            due("status " + what, x.status(what), y.status(what));
        }
        for (int m = 0; m < y.st.mules.size(); m++) {
            for (int what = 0; what <= 5; what++) {
                due("muleOf " + m + " " + what, x.muleOf(m, what), y.muleOf(m, what));
            }
        }
        for (int p = 0; p <= y.st.end; p++) {
            due("placeOf " + p, x.placeOf(p), y.placeOf(p));
        }
        for (int s = 0; s < 8; s++) {
            due("holds " + s, x.holds(s), y.holds(s));
            for (int i = 0; i < 10; i++) {
                due("element " + s + " " + i, x.element(s, i), y.element(s, i));
            }
        }
    }
}
