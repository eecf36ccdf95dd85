/**
 * Mules by kinds on a pass counted in steps: where each stops, and what comes of it.
 * The words in capitals are those of the document.
 */
public final class NinthStep {
    public static final int NONE = -1;

    private static final int BAD = -2;
    private static final int OTHER = -3;
    private static final int NOTHING = -4;
    private static final int STUCK = -5;
    private static final int FULL = -6;
    private static final int FINE = 0;
    private static final int REFUSALS = 5;
    private static final int FAULT_BASE = -20;

    private static final int STONE = 0;
    private static final int INN = 1;
    private static final int CLIFF = 2;
    private static final int VIEW = 3;
    private static final int MARKS = 4;

    private static final int MULE = 0;
    private static final int SLOW = 1;
    private static final int LOOSE = 2;
    private static final int SHY = 3;
    private static final int DOUBLER = 4;
    private static final int SURE = 5;
    private static final int KINDS = 6;
    /** By KIND the one that it is under. */
    private static final int[] ABOVE = {NONE, MULE, MULE, SLOW, MULE, LOOSE};

    private static final int FIRST_END = 30;
    private static final int MOST_END = 60;
    private static final int PLACES = MOST_END + 1;
    private static final int MOST_MULES = 6;
    private static final int LEAST_NUMBER = 2;
    private static final int MOST_NUMBER = 13;
    private static final int MOST_DOUBLED = 64;
    private static final int MOST_A = 9;
    private static final int MOST_TURNS = 3;
    private static final int MOST_BEST = 10;
    private static final int MOST_MINUTES = 400;
    private static final int THOUSAND = 1000;
    private static final int MILLION = 1000000;

    private static final int SHELVES = 8;
    private static final int MOST_CELLS = 40;
    private static final int SORTS = 5;
    private static final int MULE_HELD = 10;
    private static final int MOST_TAPE = 250;
    private static final int MOST_BYTE = 255;

    private final World now = new World();
    private final World kept = new World();
    private final World draft = new World();
    private final Shelf[] shelves = new Shelf[SHELVES];
    private final Tape tape = new Tape();
    private final TurnPlan turnPlan = new TurnPlan();
    private final StonePlan stonePlan = new StonePlan();
    private final Chance chance = new Chance();
    private final Mule walker = new Mule();
    private final int[] crowds = new int[PLACES];
    private final int[] refusals = new int[REFUSALS];
    private boolean isKept;

    public NinthStep() {
        for (int s = 0; s < SHELVES; s++) {
            shelves[s] = new Shelf();
        }
    }

    // ---- SHELVES

    public int row(int s, int sort, int n) {
        Shelf shelf = shelfAt(s);
        if (shelf == null || !isWithin(sort, 0, SORTS - 1) || !isWithin(n, 0, MOST_CELLS)) {
            return refuse(BAD);
        }
        shelf.holdRow(sort, n);
        return 1;
    }

    public int set(int s, int i, long v) {
        Shelf shelf = shelfAt(s);
        if (shelf == null) {
            return refuse(BAD);
        }
        int trouble = shelf.troubleAsRow();
        if (trouble != FINE) {
            return refuse(trouble);
        }
        if (!isWithin(i, 0, shelf.size - 1)) {
            return refuse(BAD);
        }
        shelf.putCell(i, v);
        return 1;
    }

    public int copy(int p, int q, int i, int j, int n) {
        Shelf from = shelfAt(p);
        Shelf to = shelfAt(q);
        if (from == null || to == null) {
            return refuse(BAD);
        }
        int trouble = troubleAsPair(from, to);
        if (trouble != FINE) {
            return refuse(trouble);
        }
        if (n < 0 || !isWithin(i, 0, from.size - n) || !isWithin(j, 0, to.size - n)) {
            return refuse(BAD);
        }
        System.arraycopy(from.cells, i, to.cells, j, n);
        return n;
    }

    public long element(int s, int i) {
        Shelf shelf = shelfAt(s);
        return shelf == null ? 0L : shelf.cellAt(i);
    }

    public int holds(int s) {
        Shelf shelf = shelfAt(s);
        return shelf == null ? NONE : shelf.held;
    }

    public int show(int s, int mule) {
        Shelf shelf = shelfAt(s);
        if (shelf == null || (mule != NONE && now.muleAt(mule) == null)) {
            return refuse(BAD);
        }
        shelf.held = mule == NONE ? NONE : MULE_HELD + mule;
        return 1;
    }

    public int says(int s, int kind) {
        Shelf shelf = shelfAt(s);
        if (shelf == null || !isWithin(kind, 0, KINDS - 1)) {
            return refuse(BAD);
        }
        if (shelf.held == NONE) {
            return refuse(NOTHING);
        }
        Mule m = now.muleAt(shelf.held - MULE_HELD);
        if (m == null || !isUnder(m.kind, kind)) {
            return refuse(OTHER);
        }
        return saidAs(m, kind);
    }

    // ---- THE PASS

    public int length(int n) {
        if (!isWithin(n, 1, MOST_END)) {
            return refuse(BAD);
        }
        if (now.herd > 0 || now.ground.highest() > n) {
            return refuse(STUCK);
        }
        int was = now.ground.end;
        now.ground.end = n;
        return was;
    }

    public int put(int place, int what, boolean is) {
        if (!isPlace(place) || !isWithin(what, 0, MARKS - 1)) {
            return refuse(BAD);
        }
        if (is && now.ground.forbids(what, place)) {
            return refuse(STUCK);
        }
        if (isIn(now.ground.allOf(what), place) == is) {
            return 0;
        }
        now.ground.mark(what, place, is);
        return 1;
    }

    public int mule(int kind, int number, int a) {
        if (!isWithin(kind, 0, KINDS - 1) || !isWithin(number, LEAST_NUMBER, MOST_NUMBER) || !isWithin(a, 0, MOST_A)) {
            return refuse(BAD);
        }
        Mule m = now.newMule();
        if (m == null) {
            return refuse(FULL);
        }
        m.become(kind, number, a);
        return now.herd - 1;
    }

    public int stand(int mule, int place, int count) {
        Mule m = now.muleAt(mule);
        if (m == null || !isPlace(place) || !isWithin(count, 0, m.number - 1)) {
            return refuse(BAD);
        }
        int was = m.at;
        m.at = place;
        m.count = count;
        return was;
    }

    public int teach(int mule, int v) {
        Mule m = now.muleAt(mule);
        if (m == null || !isWithin(v, LEAST_NUMBER, MOST_NUMBER)) {
            return refuse(BAD);
        }
        int was = m.number;
        m.number = v;
        m.count = 0;
        return was;
    }

    public int slip(int v) {
        if (!isWithin(v, 0, THOUSAND)) {
            return refuse(BAD);
        }
        int was = now.slipping;
        now.slipping = v;
        return was;
    }

    public int feed(int letter) {
        if (!isWithin(letter, 0, MOST_BYTE)) {
            return refuse(BAD);
        }
        if (!tape.append(letter)) {
            return refuse(FULL);
        }
        return tape.size;
    }

    public int wipe() {
        int was = tape.size;
        tape.size = 0;
        return was;
    }

    public int pass() {
        draft.takeFrom(now);
        int told = tape.readInto(draft);
        tape.size = 0;
        if (tape.fault != NONE) {
            refuse(BAD);
            return FAULT_BASE - tape.fault;
        }
        now.takeFrom(draft);
        return told;
    }

    public int muleOf(int mule, int what) {
        Mule m = now.muleAt(mule);
        if (m == null) {
            return refuse(BAD);
        }
        switch (what) {
            case 0:
                return m.kind;
            case 1:
                return m.number;
            case 2:
                return m.at;
            case 3:
                return m.count;
            case 4:
                return m.rested;
            case 5:
                return m.a;
            default:
                return refuse(BAD);
        }
    }

    public int placeOf(int place) {
        if (!isPlace(place)) {
            return refuse(BAD);
        }
        int all = 0;
        for (int what = 0; what < MARKS; what++) {
            if (isIn(now.ground.allOf(what), place)) {
                all |= 1 << what;
            }
        }
        return all;
    }

    // ---- JOURNEYS in thought

    public int stops(int mule, int i) {
        Mule m = now.muleAt(mule);
        if (m == null || i < NONE) {
            return refuse(BAD);
        }
        long places = stopsOf(m);
        if (i == NONE) {
            return Long.bitCount(places);
        }
        if (i >= Long.bitCount(places)) {
            return refuse(STUCK);
        }
        for (int k = 0; k < i; k++) {
            places &= places - 1;
        }
        return Long.numberOfTrailingZeros(places);
    }

    public int minutes(int mule) {
        Mule m = now.muleAt(mule);
        return m == null ? refuse(BAD) : minutesOf(m);
    }

    public int after(int mule, int t) {
        Mule m = now.muleAt(mule);
        if (m == null || !isWithin(t, 0, MOST_MINUTES)) {
            return refuse(BAD);
        }
        long places = stopsOf(m);
        int place = m.at;
        for (int next = m.at + 1; next <= now.ground.end; next++) {
            if (m.arrival(next, places) > t) {
                break;
            }
            place = next;
        }
        return place;
    }

    public int good(int mule) {
        Mule m = now.muleAt(mule);
        if (m == null) {
            return refuse(BAD);
        }
        return isGood(m.at, stopsOf(m)) ? 1 : 0;
    }

    public int falls(int mule) {
        Mule m = now.muleAt(mule);
        return m == null ? refuse(BAD) : firstOf(stopsOf(m) & now.ground.cliffs);
    }

    public int missed(int mule) {
        Mule m = now.muleAt(mule);
        return m == null ? refuse(BAD) : Long.bitCount(viewsMissed(m.at, stopsOf(m)));
    }

    public int turns(int mule, int place) {
        Mule m = now.muleAt(mule);
        if (m == null || (place != NONE && !isPlace(place))) {
            return refuse(BAD);
        }
        // What is good as it is needs no plan, which is dear.
        if (isGood(m.at, stopsOf(m))) {
            return 0;
        }
        int fewest = turnPlan.make(m, now.ground);
        if (fewest == NONE || place == NONE) {
            return fewest;
        }
        return turnPlan.madeAt(place);
    }

    public int roped(int mule, int other, int what) {
        Mule m = now.muleAt(mule);
        Mule o = now.muleAt(other);
        if (m == null || o == null || mule == other || !isWithin(what, 0, 1)) {
            return refuse(BAD);
        }
        int start = Math.max(m.at, o.at);
        long places = stopsBy(m, start, m.number, m.count);
        long others = stopsBy(o, start, o.number, o.count);
        return what == 0 ? Long.bitCount(places | others) : firstOf(places & others);
    }

    public int meets(int mule, int other) {
        Mule m = now.muleAt(mule);
        Mule o = now.muleAt(other);
        if (m == null || o == null || mule == other) {
            return refuse(BAD);
        }
        int minute = firstTogether(m, o);
        return minute > MOST_MINUTES ? NONE : minute;
    }

    public int last() {
        int latest = NONE;
        int most = NONE;
        for (int i = 0; i < now.herd; i++) {
            int takes = minutesOf(now.mules[i]);
            if (takes > most) {
                most = takes;
                latest = i;
            }
        }
        return latest == NONE ? refuse(STUCK) : latest;
    }

    public int train(int s, int n) {
        Shelf shelf = shelfAt(s);
        if (shelf == null || !isWithin(n, 1, MOST_MULES)) {
            return refuse(BAD);
        }
        int trouble = shelf.troubleAsRow();
        if (trouble != FINE) {
            return refuse(trouble);
        }
        int told = mulesTold(shelf, n);
        if (told == NONE) {
            return refuse(BAD);
        }
        return placesOfTrain(told);
    }

    public int crowd(int place) {
        if (!isPlace(place)) {
            return refuse(BAD);
        }
        countCrowds();
        return crowds[place];
    }

    public int best(int i) {
        if (!isWithin(i, 0, MOST_BEST - 1)) {
            return refuse(BAD);
        }
        countCrowds();
        int place = NONE;
        for (int k = 0; k <= i; k++) {
            place = fullestPlace();
            if (place == NONE) {
                return refuse(STUCK);
            }
            crowds[place] = 0;
        }
        return place;
    }

    public int stones(int what) {
        if (!isWithin(what, NONE, 1)) {
            return refuse(BAD);
        }
        int fewest = NONE;
        // More STONES are dearer to try, so fewer come first.
        if (!stonePlan.isAnyNeeded(now)) {
            fewest = 0;
        } else if (stonePlan.isOneEnough(now)) {
            fewest = 1;
        } else if (stonePlan.isPairEnough(now)) {
            fewest = 2;
        }
        if (fewest == NONE || what == NONE) {
            return fewest;
        }
        if (what >= fewest) {
            return refuse(STUCK);
        }
        return what == 0 ? stonePlan.first : stonePlan.second;
    }

    public int numbers(int s, int n, int what) {
        Shelf shelf = shelfAt(s);
        if (shelf == null || !isWithin(n, 1, MOST_CELLS) || !isWithin(what, 0, 1)) {
            return refuse(BAD);
        }
        int trouble = shelf.troubleAsRow();
        if (trouble != FINE) {
            return refuse(trouble);
        }
        long seen = placesTold(shelf, n);
        if (seen == 0L) {
            return refuse(BAD);
        }
        return pairsBy(seen, what == 1);
    }

    public int sure(int mule, int f) {
        Mule m = now.muleAt(mule);
        if (m == null || !isWithin(f, 0, THOUSAND)) {
            return refuse(BAD);
        }
        return chance.unfallen(m, now.ground, f);
    }

    public int judge(int s, int n, int mule) {
        Shelf shelf = shelfAt(s);
        Mule m = now.muleAt(mule);
        if (shelf == null || m == null || !isWithin(n, 0, MOST_CELLS)) {
            return refuse(BAD);
        }
        int trouble = shelf.troubleAsRow();
        if (trouble != FINE) {
            return refuse(trouble);
        }
        if (shelf.size < n) {
            return refuse(BAD);
        }
        return firstWrong(shelf, n, stopsOf(m));
    }

    public int worst() {
        int found = NONE;
        int most = NONE;
        for (int i = 0; i < now.herd; i++) {
            int fallen = Long.bitCount(stopsOf(now.mules[i]) & now.ground.cliffs);
            if (fallen > most) {
                most = fallen;
                found = i;
            }
        }
        return found == NONE ? refuse(STUCK) : found;
    }

    public int lucky(int mule) {
        Mule m = now.muleAt(mule);
        if (m == null) {
            return refuse(BAD);
        }
        for (int number = LEAST_NUMBER; number <= MOST_NUMBER; number++) {
            if (isGood(m.at, stopsBy(m, m.at, number, 0))) {
                return number;
            }
        }
        return NONE;
    }

    // ---- IN TRUTH

    public int goes(int mule, int n) {
        Mule m = now.muleAt(mule);
        if (m == null || !isWithin(n, 1, MOST_END)) {
            return refuse(BAD);
        }
        for (int k = 0; k < n && m.at < now.ground.end; k++) {
            now.stepInTruth(m, 0);
        }
        return m.at;
    }

    public int turn(int mule) {
        Mule m = now.muleAt(mule);
        if (m == null) {
            return refuse(BAD);
        }
        if (m.at >= now.ground.end) {
            return refuse(STUCK);
        }
        return now.turnInTruth(m) ? 1 : 0;
    }

    public int day() {
        int before = now.fell;
        for (int i = 0; i < now.herd; i++) {
            now.slipToEnd(now.mules[i]);
        }
        return now.fell - before;
    }

    public int home() {
        int away = 0;
        for (int i = 0; i < now.herd; i++) {
            Mule m = now.mules[i];
            if (m.at != 0) {
                away++;
            }
            m.at = 0;
            m.count = 0;
        }
        return away;
    }

    public int seed(int v) {
        int was = now.seedNow;
        now.seedNow = v;
        return was;
    }

    public int image() {
        kept.takeFrom(now);
        isKept = true;
        return 1;
    }

    public int back() {
        if (!isKept) {
            return refuse(STUCK);
        }
        now.takeFrom(kept);
        for (int s = 0; s < SHELVES; s++) {
            if (shelves[s].held >= MULE_HELD + now.herd) {
                shelves[s].held = NONE;
            }
        }
        return 1;
    }

    public int status(int what) {
        switch (what) {
            case 0:
                return now.ground.end;
            case 1:
                return now.herd;
            case 2:
            case 3:
            case 4:
            case 5:
                return Long.bitCount(now.ground.allOf(what - 2));
            case 6:
                return now.slipping;
            case 7:
                return now.fell;
            case 8:
                return tape.size;
            case 9:
                return now.seedNow;
            case 10:
                return shelvesInUse();
            default:
                return isWithin(what, 12, 11 + REFUSALS) ? refusals[what - 12] : NONE;
        }
    }

    // ---- what the calls share

    private int refuse(int code) {
        int index = BAD - code;
        if (isWithin(index, 0, REFUSALS - 1)) {
            refusals[index]++;
        }
        return code;
    }

    private Shelf shelfAt(int s) {
        return isWithin(s, 0, SHELVES - 1) ? shelves[s] : null;
    }

    private int shelvesInUse() {
        int used = 0;
        for (int s = 0; s < SHELVES; s++) {
            if (shelves[s].held != NONE) {
                used++;
            }
        }
        return used;
    }

    private static int troubleAsPair(Shelf from, Shelf to) {
        int first = from.troubleAsRow();
        int second = to.troubleAsRow();
        if (first == OTHER || second == OTHER) {
            return OTHER;
        }
        if (first == NOTHING || second == NOTHING) {
            return NOTHING;
        }
        return from.held == to.held ? FINE : OTHER;
    }

    private boolean isPlace(int place) {
        return isWithin(place, 0, now.ground.end);
    }

    private int saidAs(Mule m, int kind) {
        Ground ground = now.ground;
        switch (kind) {
            case SLOW:
                return m.restTime;
            case LOOSE:
                return Long.bitCount(ground.stones & above(m.at));
            case SHY:
                return Long.bitCount(ground.cliffs & above(m.at));
            case DOUBLER:
                return Long.bitCount(ground.inns & above(m.at));
            case SURE:
                return firstOf(ground.inns & above(m.at));
            default:
                return m.number;
        }
    }

    private long stopsOf(Mule m) {
        return stopsBy(m, m.at, m.number, m.count);
    }

    /** The PLACES of all STOPS, as bits: a JOURNEY comes to each PLACE once. */
    private long stopsBy(Mule m, int start, int number, int count) {
        walker.takeFrom(m);
        walker.standAt(start, count, number);
        long places = 0L;
        for (int place = start + 1; place <= now.ground.end; place++) {
            if (walker.makeStep(now.ground, 0)) {
                places |= bit(place);
            }
        }
        return places;
    }

    private int minutesOf(Mule m) {
        return now.ground.end - m.at + m.restTime * Long.bitCount(stopsOf(m));
    }

    private long viewsMissed(int at, long places) {
        return now.ground.views & above(at) & ~places;
    }

    private boolean isGood(int at, long places) {
        return (places & now.ground.cliffs) == 0L && viewsMissed(at, places) == 0L;
    }

    /** Both only go up, so the lowest PLACE at which their stays overlap is that of the first minute. */
    private int firstTogether(Mule m, Mule o) {
        long places = stopsOf(m);
        long others = stopsOf(o);
        int end = now.ground.end;
        for (int place = Math.max(m.at, o.at); place < end; place++) {
            int both = Math.max(m.arrival(place, places), o.arrival(place, others));
            int oneLeft = Math.min(m.arrival(place + 1, places), o.arrival(place + 1, others));
            if (both < oneLeft) {
                return both;
            }
        }
        return Math.max(m.arrival(end, places), o.arrival(end, others));
    }

    /** The MULES told, as bits; NONE if they can't be a TRAIN. */
    private int mulesTold(Shelf shelf, int n) {
        if (shelf.size < n) {
            return NONE;
        }
        int told = 0;
        for (int i = 0; i < n; i++) {
            long number = shelf.cellAt(i);
            if (number < 0 || number >= now.herd || (told >> (int) number & 1) != 0) {
                return NONE;
            }
            told |= 1 << (int) number;
        }
        return told;
    }

    private int placesOfTrain(int told) {
        int start = 0;
        for (int i = 0; i < now.herd; i++) {
            if ((told >> i & 1) != 0) {
                start = Math.max(start, now.mules[i].at);
            }
        }
        long places = 0L;
        for (int i = 0; i < now.herd; i++) {
            if ((told >> i & 1) != 0) {
                Mule m = now.mules[i];
                places |= stopsBy(m, start, m.number, m.count);
            }
        }
        return Long.bitCount(places);
    }

    private void countCrowds() {
        for (int place = 0; place < PLACES; place++) {
            crowds[place] = 0;
        }
        for (int i = 0; i < now.herd; i++) {
            long places = stopsOf(now.mules[i]);
            for (int place = 0; place < PLACES; place++) {
                crowds[place] += isIn(places, place) ? 1 : 0;
            }
        }
    }

    private int fullestPlace() {
        int fullest = NONE;
        int most = 0;
        for (int place = 0; place < PLACES; place++) {
            if (crowds[place] > most) {
                most = crowds[place];
                fullest = place;
            }
        }
        return fullest;
    }

    /** The PLACES told, as bits; none if they can't be STOPS seen. */
    private long placesTold(Shelf shelf, int n) {
        if (shelf.size < n) {
            return 0L;
        }
        long told = 0L;
        long ahead = 0L;
        for (int i = 0; i < n; i++) {
            long place = shelf.cellAt(i);
            if (place <= ahead || place > now.ground.end) {
                return 0L;
            }
            told |= bit((int) place);
            ahead = place;
        }
        return told;
    }

    /** How many pairs of NUMBER and COUNT would be seen so, or their NUMBERS as bits. */
    private int pairsBy(long seen, boolean asBits) {
        int pairs = 0;
        int bits = 0;
        for (int number = LEAST_NUMBER; number <= MOST_NUMBER; number++) {
            for (int count = 0; count < number; count++) {
                if (wouldBeSeen(number, count, seen)) {
                    pairs++;
                    bits |= 1 << number;
                }
            }
        }
        return asBits ? bits : pairs;
    }

    private boolean wouldBeSeen(int number, int count, long seen) {
        walker.become(MULE, number, 0);
        walker.count = count;
        int lastSeen = lastOf(seen);
        for (int place = 1; place <= lastSeen; place++) {
            if (walker.makeStep(now.ground, 0) != isIn(seen, place)) {
                return false;
            }
        }
        return true;
    }

    private static int firstWrong(Shelf shelf, int n, long places) {
        long left = places;
        for (int i = 0; i < n; i++) {
            if (left == 0L || shelf.cellAt(i) != firstOf(left)) {
                return i;
            }
            left &= left - 1;
        }
        return left == 0L ? NONE : n;
    }

    private static boolean isWithin(int v, int low, int high) {
        return v >= low && v <= high;
    }

    private static boolean isUnder(int kind, int higher) {
        int k = kind;
        for (int i = 0; i < KINDS && k >= 0 && k < KINDS; i++) {
            if (k == higher) {
                return true;
            }
            k = ABOVE[k];
        }
        return false;
    }

    /** NUMBER changes only by STEPS, so each PLACE from AT on has its own. */
    private static void tellNumbers(Mule m, Ground ground, Mule trial, int[] numberAt) {
        trial.takeFrom(m);
        numberAt[m.at] = m.number;
        for (int place = m.at + 1; place <= ground.end; place++) {
            trial.makeStep(ground, 0);
            numberAt[place] = trial.number;
        }
    }

    private static boolean isIn(long places, int place) {
        return (places >>> place & 1L) != 0L;
    }

    private static long above(int place) {
        return -2L << place;
    }

    private static long bit(int place) {
        return 1L << place;
    }

    private static int firstOf(long places) {
        return places == 0L ? NONE : Long.numberOfTrailingZeros(places);
    }

    private static int lastOf(long places) {
        return places == 0L ? NONE : 63 - Long.numberOfLeadingZeros(places);
    }

    /** The END, and the PLACES, as bits, at which there is a STONE, an INN, a CLIFF, a VIEW. */
    private static final class Ground {
        private int end = FIRST_END;
        private long stones;
        private long inns;
        private long cliffs;
        private long views;

        private void takeFrom(Ground other) {
            end = other.end;
            stones = other.stones;
            inns = other.inns;
            cliffs = other.cliffs;
            views = other.views;
        }

        private long allOf(int what) {
            switch (what) {
                case STONE:
                    return stones;
                case INN:
                    return inns;
                case CLIFF:
                    return cliffs;
                default:
                    return views;
            }
        }

        private void mark(int what, int place, boolean is) {
            long places = is ? allOf(what) | bit(place) : allOf(what) & ~bit(place);
            switch (what) {
                case STONE:
                    stones = places;
                    break;
                case INN:
                    inns = places;
                    break;
                case CLIFF:
                    cliffs = places;
                    break;
                default:
                    views = places;
                    break;
            }
        }

        private boolean forbids(int what, int place) {
            return (what == CLIFF && isIn(views, place)) || (what == VIEW && isIn(cliffs, place));
        }

        private int highest() {
            return lastOf(stones | inns | cliffs | views);
        }
    }

    private static final class Mule {
        private int kind;
        private int number;
        private int at;
        private int count;
        private int rested;
        private int a;
        /** Minutes of a STOP, and what a STONE adds to COUNT: both come of KIND and a. */
        private int restTime;
        private int stoneWeight;

        private void become(int newKind, int newNumber, int newA) {
            kind = newKind;
            number = newNumber;
            a = newA;
            at = 0;
            count = 0;
            rested = 0;
            restTime = isUnder(kind, SLOW) ? 1 + a : 1;
            stoneWeight = isUnder(kind, LOOSE) ? 0 : 1;
        }

        private void takeFrom(Mule other) {
            kind = other.kind;
            number = other.number;
            at = other.at;
            count = other.count;
            rested = other.rested;
            a = other.a;
            restTime = other.restTime;
            stoneWeight = other.stoneWeight;
        }

        /** COUNT, but no more than can matter: at NUMBER or above a SHY one only waits for a PLACE. */
        private int cappedCount() {
            return Math.min(count, Math.min(number, MOST_DOUBLED - 1));
        }

        private void standAt(int place, int newCount, int newNumber) {
            at = place;
            count = newCount;
            number = newNumber;
        }

        /** A STEP, whose COUNT is some more besides; tells whether it STOPS. */
        private boolean makeStep(Ground ground, int besides) {
            at++;
            count += 1 + besides;
            if ((ground.stones >>> at & 1L) != 0L) {
                count += stoneWeight;
            }
            boolean atInn = (ground.inns >>> at & 1L) != 0L;
            boolean stopped = mayStop(ground) || (atInn && kind == SURE);
            if (stopped) {
                count = 0;
            }
            if (atInn && kind == DOUBLER) {
                number = Math.min(MOST_DOUBLED, 2 * number);
            }
            return stopped;
        }

        /** A TURN; tells whether it STOPS. An INN makes nobody STOP here: that comes of a STEP. */
        private boolean makeTurn(Ground ground) {
            count++;
            boolean stopped = mayStop(ground);
            if (stopped) {
                count = 0;
            }
            return stopped;
        }

        private boolean mayStop(Ground ground) {
            return count >= number && (kind != SHY || (ground.cliffs >>> at & 1L) == 0L);
        }

        /** The minute at which it comes to a PLACE not below AT, if these are its STOPS. */
        private int arrival(int place, long places) {
            return place - at + restTime * Long.bitCount(places & (bit(place) - 1));
        }
    }

    /** All that an image keeps. */
    private static final class World {
        private final Ground ground = new Ground();
        private final Mule[] mules = new Mule[MOST_MULES];
        private int herd;
        private int slipping;
        private int fell;
        private int seedNow = 1;

        private World() {
            for (int i = 0; i < MOST_MULES; i++) {
                mules[i] = new Mule();
            }
        }

        private void takeFrom(World other) {
            ground.takeFrom(other.ground);
            for (int i = 0; i < MOST_MULES; i++) {
                mules[i].takeFrom(other.mules[i]);
            }
            herd = other.herd;
            slipping = other.slipping;
            fell = other.fell;
            seedNow = other.seedNow;
        }

        private Mule muleAt(int i) {
            return i >= 0 && i < herd && i < MOST_MULES ? mules[i] : null;
        }

        /** One MULE more, still to be made what it is; null if there is no room. */
        private Mule newMule() {
            if (herd >= MOST_MULES) {
                return null;
            }
            herd++;
            return mules[herd - 1];
        }

        private void stepInTruth(Mule m, int besides) {
            if (m.makeStep(ground, besides)) {
                restInTruth(m);
            }
        }

        private boolean turnInTruth(Mule m) {
            boolean stopped = m.makeTurn(ground);
            if (stopped) {
                restInTruth(m);
            }
            return stopped;
        }

        private void restInTruth(Mule m) {
            m.rested += m.restTime;
            if (isIn(ground.cliffs, m.at)) {
                fell++;
            }
        }

        private void slipToEnd(Mule m) {
            for (int place = m.at; place < ground.end; place++) {
                stepInTruth(m, draw(THOUSAND) < slipping ? 1 : 0);
            }
        }

        private int draw(int below) {
            seedNow = seedNow * 1103515245 + 12345;
            return below > 0 ? (seedNow >>> 16) % below : 0;
        }
    }

    /** Holds NONE, the SORT of a ROW, or MULE_HELD and the number of a MULE, as holds() tells it. */
    private static final class Shelf {
        private int held = NONE;
        private int size;
        private final long[] cells = new long[MOST_CELLS];

        private void holdRow(int sort, int n) {
            held = sort;
            size = n;
            for (int i = 0; i < MOST_CELLS; i++) {
                cells[i] = 0L;
            }
        }

        private int troubleAsRow() {
            if (held == NONE) {
                return NOTHING;
            }
            return held >= MULE_HELD ? OTHER : FINE;
        }

        private long cellAt(int i) {
            return troubleAsRow() == FINE && i >= 0 && i < size && i < MOST_CELLS ? cells[i] : 0L;
        }

        private void putCell(int i, long v) {
            if (isWithin(i, 0, MOST_CELLS - 1)) {
                cells[i] = lowestBits(v);
            }
        }

        private long lowestBits(long v) {
            switch (held) {
                case 0:
                    return (byte) v;
                case 1:
                    return (short) v;
                case 2:
                    return (int) v;
                case 4:
                    return v != 0L ? 1L : 0L;
                default:
                    return v;
            }
        }
    }

    /** THE TAPE, and the reading of a PASS from it, TOKEN by TOKEN. */
    private static final class Tape {
        private static final int ENDED = 0;
        private static final int WORD = 1;
        private static final int NUMBER = 2;
        private static final int SIGN = 3;
        private static final int STRANGE = 4;

        private final int[] bytes = new int[MOST_TAPE];
        private int size;
        /** The FAULT of the last reading; NONE. */
        private int fault;
        /** The TOKEN that is read next: its sort, its first byte, the byte behind it. */
        private int sort;
        private int from;
        private int behind;

        private boolean append(int letter) {
            if (size >= MOST_TAPE) {
                return false;
            }
            bytes[size] = letter;
            size++;
            return true;
        }

        /** How many STATEMENTS; if there is a fault, the world has been left half made. */
        private int readInto(World world) {
            fault = NONE;
            behind = 0;
            int told = 0;
            do {
                nextToken();
                readStatement(world);
                told++;
                if (fault == NONE && sort != ENDED && sort != SIGN) {
                    fault = from;
                }
            } while (fault == NONE && sort == SIGN && told <= MOST_TAPE);
            return told;
        }

        private void readStatement(World world) {
            if (isWord("length")) {
                readLength(world);
            } else if (isWord("stone")) {
                readMark(world.ground, STONE);
            } else if (isWord("inn")) {
                readMark(world.ground, INN);
            } else if (isWord("cliff")) {
                readMark(world.ground, CLIFF);
            } else if (isWord("view")) {
                readMark(world.ground, VIEW);
            } else if (isWord("mule")) {
                readMule(world);
            } else {
                fault = from;
            }
        }

        private void readLength(World world) {
            if (world.herd > 0) {
                fault = from;
                return;
            }
            nextToken();
            int n = takeNumber(Math.max(1, world.ground.highest()), MOST_END);
            if (fault == NONE) {
                world.ground.end = n;
            }
        }

        private void readMark(Ground ground, int what) {
            nextToken();
            int where = from;
            int place = takeNumber(0, ground.end);
            if (fault != NONE) {
                return;
            }
            if (ground.forbids(what, place)) {
                fault = where;
                return;
            }
            ground.mark(what, place, true);
        }

        private void readMule(World world) {
            Mule m = world.newMule();
            if (m == null) {
                fault = from;
                return;
            }
            nextToken();
            int kind = takeNumber(0, KINDS - 1);
            int number = takeNumber(LEAST_NUMBER, MOST_NUMBER);
            int a = takeNumber(0, MOST_A);
            m.become(kind, number, a);
            if (fault == NONE && isWord("at")) {
                nextToken();
                m.at = takeNumber(0, world.ground.end);
            }
            if (fault == NONE && isWord("count")) {
                nextToken();
                m.count = takeNumber(0, number - 1);
            }
        }

        /** A fault that is found stays the first: nothing is taken behind it. */
        private int takeNumber(int low, int high) {
            if (fault != NONE) {
                return low;
            }
            int value = sort == NUMBER && behind - from <= 2 ? numberRead() : NONE;
            if (!isWithin(value, low, high)) {
                fault = from;
                return low;
            }
            nextToken();
            return value;
        }

        private int numberRead() {
            int value = 0;
            for (int i = from; i < behind && i < MOST_TAPE; i++) {
                value = value * 10 + bytes[i] - '0';
            }
            return value;
        }

        private boolean isWord(String word) {
            if (sort != WORD || behind - from != word.length()) {
                return false;
            }
            for (int i = 0; i < word.length() && from + i < MOST_TAPE; i++) {
                if (bytes[from + i] != word.charAt(i)) {
                    return false;
                }
            }
            return true;
        }

        private void nextToken() {
            from = behind;
            while (from < size && bytes[from] == ' ') {
                from++;
            }
            sort = from < size ? sortOf(bytes[from]) : ENDED;
            behind = from;
            if (sort == WORD || sort == NUMBER) {
                while (behind < size && sortOf(bytes[behind]) == sort) {
                    behind++;
                }
            } else if (sort != ENDED) {
                behind++;
            }
        }

        private static int sortOf(int letter) {
            if (letter >= 'a' && letter <= 'z') {
                return WORD;
            }
            if (letter >= '0' && letter <= '9') {
                return NUMBER;
            }
            return letter == ';' ? SIGN : STRANGE;
        }
    }

    /** The fewest TURNS: from the END back, for each PLACE and COUNT there, how many are still needed. */
    private static final class TurnPlan {
        private static final int COUNTS = MOST_DOUBLED;
        private static final int FAR = 1000;

        private final int[] needed = new int[PLACES * COUNTS];
        private final int[] numberAt = new int[PLACES];
        private final Mule trial = new Mule();
        private Ground ground;
        private int start;
        private int firstCount;

        /** How many TURNS; NONE if no TURNS do. */
        private int make(Mule m, Ground onGround) {
            ground = onGround;
            start = m.at;
            firstCount = m.cappedCount();
            tellNumbers(m, ground, trial, numberAt);
            for (int count = 0; count < COUNTS; count++) {
                needed[cellOf(ground.end, count)] = hasSeen(ground.end, count) ? 0 : FAR;
            }
            for (int place = ground.end - 1; place >= start; place--) {
                fillPlace(place);
            }
            int fewest = needed[cellOf(start, firstCount)];
            return fewest >= FAR ? NONE : fewest;
        }

        /** How many TURNS the plan that was made has at a PLACE. */
        private int madeAt(int place) {
            int made = 0;
            int count = firstCount;
            for (int p = start; p <= place && p < ground.end; p++) {
                made = fewestFirst(p, count);
                needWith(p, count, made);
                count = trial.cappedCount();
            }
            return place < start || place >= ground.end ? 0 : made;
        }

        private void fillPlace(int place) {
            int most = Math.min(numberAt[place], COUNTS - 1);
            for (int count = 0; count <= most; count++) {
                int least = FAR;
                for (int k = 0; k <= MOST_TURNS && k < least; k++) {
                    least = Math.min(least, needWith(place, count, k));
                }
                needed[cellOf(place, count)] = least;
            }
        }

        private int fewestFirst(int place, int count) {
            int need = needed[cellOf(place, count)];
            for (int k = 0; k < MOST_TURNS; k++) {
                if (needWith(place, count, k) == need) {
                    return k;
                }
            }
            return MOST_TURNS;
        }

        /** How many are needed from a PLACE on with k of them there; if that can be, the trial is one STEP on then. */
        private int needWith(int place, int count, int k) {
            trial.standAt(place, count, numberAt[place]);
            boolean seen = hasSeen(place, count);
            for (int i = 0; i < k; i++) {
                if (trial.makeTurn(ground)) {
                    if (isIn(ground.cliffs, place)) {
                        return FAR;
                    }
                    seen = true;
                }
            }
            boolean falls = trial.makeStep(ground, 0) && isIn(ground.cliffs, trial.at);
            if (!seen || falls) {
                return FAR;
            }
            return Math.min(FAR, k + needed[cellOf(place + 1, trial.cappedCount())]);
        }

        /** Behind a STEP COUNT is 0 only if it STOPPED; a VIEW at the start needn't be stopped at. */
        private boolean hasSeen(int place, int count) {
            return place == start || count == 0 || !isIn(ground.views, place);
        }

        private static int cellOf(int place, int count) {
            int p = Math.max(0, Math.min(place, MOST_END));
            int c = Math.max(0, Math.min(count, COUNTS - 1));
            return p * COUNTS + c;
        }
    }

    /** The fewest new STONES: for all MULES at once, which one, and which second behind which first, will do. */
    private static final class StonePlan {
        /** By PLACE: the COUNTS, as bits, from which no CLIFF is stopped at without new STONES. */
        private final long[] safe = new long[PLACES];
        /** By the PLACE of the first new STONE: those of a second one, as bits. */
        private final long[] seconds = new long[PLACES];
        private final int[] numberAt = new int[PLACES];
        private final Mule outer = new Mule();
        private final Mule branch = new Mule();
        private final Mule inner = new Mule();
        private final Mule trial = new Mule();
        private Ground ground;
        private int first;
        private int second;

        private boolean isAnyNeeded(World world) {
            ground = world.ground;
            for (int i = 0; i < world.herd; i++) {
                if (fallsAsItIs(world.mules[i])) {
                    return true;
                }
            }
            return false;
        }

        private boolean isOneEnough(World world) {
            ground = world.ground;
            long singles = freePlaces();
            for (int i = 0; i < world.herd && singles != 0L; i++) {
                singles &= helpersFor(world.mules[i]);
            }
            first = firstOf(singles);
            return singles != 0L;
        }

        private boolean isPairEnough(World world) {
            ground = world.ground;
            long free = freePlaces();
            for (int place = 0; place < PLACES; place++) {
                seconds[place] = isIn(free, place) ? free & above(place) : 0L;
            }
            for (int i = 0; i < world.herd; i++) {
                heedSeconds(world.mules[i], helpersFor(world.mules[i]));
            }
            for (int place = 0; place < PLACES; place++) {
                if (seconds[place] != 0L) {
                    first = place;
                    second = firstOf(seconds[place]);
                    return true;
                }
            }
            return false;
        }

        private long freePlaces() {
            return bit(ground.end + 1) - 2 & ~ground.stones;
        }

        private boolean fallsAsItIs(Mule m) {
            outer.takeFrom(m);
            for (int place = m.at; place < ground.end; place++) {
                if (fallsNext(outer, 0)) {
                    return true;
                }
            }
            return false;
        }

        /** The PLACES, also those behind it, at which one new STONE would do; this also fills what is safe. */
        private long helpersFor(Mule m) {
            fillSafe(m);
            return helpersAhead(m) | (isSafe(m) ? ~above(m.at) : 0L);
        }

        /** Leaves of the second STONES those that keep this MULE, too, from the CLIFFS. */
        private void heedSeconds(Mule m, long alone) {
            for (int place = 0; place <= m.at && place < PLACES; place++) {
                seconds[place] &= alone;
            }
            outer.takeFrom(m);
            boolean fallen = false;
            for (int place = m.at + 1; place <= ground.end; place++) {
                if (seconds[place] != 0L) {
                    branch.takeFrom(outer);
                    boolean helps = !fallen && !fallsNext(branch, m.stoneWeight);
                    seconds[place] &= helps ? helpersAhead(branch) : 0L;
                }
                fallen = fallen || fallsNext(outer, 0);
            }
        }

        private void fillSafe(Mule m) {
            tellNumbers(m, ground, trial, numberAt);
            safe[ground.end] = -1L;
            for (int place = ground.end - 1; place >= m.at; place--) {
                safe[place] = 0L;
                int most = Math.min(numberAt[place], MOST_DOUBLED - 1);
                for (int count = 0; count <= most; count++) {
                    trial.standAt(place, count, numberAt[place]);
                    if (!fallsNext(trial, 0) && isSafe(trial)) {
                        safe[place] |= bit(count);
                    }
                }
            }
        }

        private boolean isSafe(Mule m) {
            return isIn(safe[m.at], m.cappedCount());
        }

        /** The PLACES ahead at which one new STONE would do. */
        private long helpersAhead(Mule m) {
            long helpers = 0L;
            inner.takeFrom(m);
            for (int place = m.at + 1; place <= ground.end; place++) {
                trial.takeFrom(inner);
                if (!fallsNext(trial, m.stoneWeight) && isSafe(trial)) {
                    helpers |= bit(place);
                }
                if (fallsNext(inner, 0)) {
                    break;
                }
            }
            return helpers;
        }

        private boolean fallsNext(Mule m, int besides) {
            return m.makeStep(ground, besides) && isIn(ground.cliffs, m.at);
        }
    }

    /** How sure a MULE is: how many parts of a million there are with each COUNT. */
    private static final class Chance {
        private final int[] parts = new int[MOST_DOUBLED + 1];
        private final int[] next = new int[MOST_DOUBLED + 1];

        private int unfallen(Mule m, Ground ground, int f) {
            for (int count = 0; count <= MOST_DOUBLED; count++) {
                parts[count] = 0;
            }
            parts[Math.max(0, Math.min(m.count, MOST_DOUBLED))] = MILLION;
            for (int place = m.at + 1; place <= ground.end; place++) {
                int further = isIn(ground.stones, place) ? 2 : 1;
                spread(further, m.number, f);
                if (isIn(ground.cliffs, place)) {
                    parts[0] = 0;
                }
            }
            int all = 0;
            for (int count = 0; count <= MOST_DOUBLED; count++) {
                all += parts[count];
            }
            return all;
        }

        /** One STEP of all parts; those that STOP come to COUNT 0, where no others are. */
        private void spread(int further, int number, int f) {
            for (int count = 0; count <= MOST_DOUBLED; count++) {
                next[count] = 0;
            }
            for (int count = 0; count <= MOST_DOUBLED; count++) {
                int slipped = parts[count] * f / THOUSAND;
                next[landing(count + further, number)] += parts[count] - slipped;
                next[landing(count + further + 1, number)] += slipped;
            }
            for (int count = 0; count <= MOST_DOUBLED; count++) {
                parts[count] = next[count];
            }
        }

        private static int landing(int count, int number) {
            return count >= number || count > MOST_DOUBLED ? 0 : count;
        }
    }
}
