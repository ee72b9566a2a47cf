import java.util.Arrays;

/** Calls that know their own echo; ../shared/DOC.md says what each public method promises. */
public final class PitchRows {
    public static final int UNKNOWN = -1, OUTSIDE = -2, STATE = -3, FULL = -4, NONE = -9;
    public static final long LOST = Long.MIN_VALUE;

    private static final int PLAIN = 0, BROAD = 1, KEEN = 2;
    private static final int FREE = -1;
    private static final int FAULT_NULL = 1, FAULT_CAST = 2, FAULT_INDEX = 3, FAULT_SIZE = 4;
    private static final int LANE_BYTES = 0, LANE_SHORTS = 1, LANE_INTS = 2;

    private static final int MOST_CALLERS = 4, FEWEST_BEATS = 2, MOST_BEATS = 6;
    private static final int FARTHEST = 5;
    private static final int SHIFTS_BUT_NONE = 120;
    private static final int LAST_SENDING = 20, LAST_MOMENT = 25;
    private static final int MOST_SENDINGS = 8, MOST_READINGS = 8;
    private static final int MOST_HEARD = 20;
    private static final int SHEETS = 4, MOST_CELLS = 60;
    private static final int MOST_PAIRS = 20, TAKEN_BACK = 9;
    private static final int MOST_GOOD = 116;
    private static final int WRONG_AT = -100;

    private final Choir choir = new Choir();
    private final Air air = new Air();
    /** Where a told day is tried out, so that the air itself stays as it is. */
    private final Air dayAir = new Air();
    private final Readings readings = new Readings();
    private final GoodRows goodRows = new GoodRows();
    private final TextReader reader = new TextReader();
    private final Sheet[] sheets = new Sheet[SHEETS];
    private int trace;
    private int fault;

    public PitchRows() {
        for (int k = 0; k < SHEETS; k++) {
            sheets[k] = new Sheet();
        }
    }

    // ---- 1 callers

    public int callers(int sheet, int lane, int i, int n) {
        fault = 0;
        if (!isSheet(sheet)) {
            return UNKNOWN;
        }
        if (!isLane(lane)) {
            return OUTSIDE;
        }
        int found = sheets[sheet].faultAs(lane, i, n);
        if (found != 0) {
            return faulted(found);
        }
        int end = reader.readUpTo(sheets[sheet], i, n);
        if (!reader.whole) {
            return WRONG_AT - end;
        }
        choir.take(sheets[sheet], i, reader.callers);
        air.count = 0;
        readings.count = 0;
        return choir.count;
    }

    public int ofCaller(int k, int what) {
        if (!choir.has(k)) {
            return UNKNOWN;
        }
        Caller caller = choir.callers[k];
        switch (what) {
            case 0:
                return caller.kind;
            case 1:
                return caller.freeBeats(choir.beats);
            case 2:
                return GoodRows.isGood(caller.pitch, choir.beats) ? 1 : 0;
            default:
                return isWithin(what, 10, 15) ? toldPitch(caller, what - 10) : OUTSIDE;
        }
    }

    public int tune(int k, int beat, int v) {
        if (!choir.has(k) || !choir.hasBeat(beat)) {
            return UNKNOWN;
        }
        if (v != FREE && !choir.hasBeat(v)) {
            return OUTSIDE;
        }
        int was = toldPitch(choir.callers[k], beat);
        choir.callers[k].pitch[beat] = v;
        return was;
    }

    public int hears(int k, int whose, int late, int high) {
        if (!choir.has(k) || !choir.has(whose)) {
            return UNKNOWN;
        }
        if (!isShift(late) || !isShift(high)) {
            return OUTSIDE;
        }
        return choir.heard(k, whose, late, high);
    }

    // ---- 2 the air

    public int send(int k, int moment, int high) {
        if (!choir.has(k)) {
            return UNKNOWN;
        }
        if (!isWithin(moment, 0, LAST_SENDING) || !isWithin(high, 0, FARTHEST)) {
            return OUTSIDE;
        }
        return air.add(k, moment, high) ? air.count - 1 : FULL;
    }

    public int unsend(int m) {
        return air.takeBack(m) ? air.count : OUTSIDE;
    }

    public int air(int moment) {
        if (!isWithin(moment, 0, LAST_MOMENT)) {
            return OUTSIDE;
        }
        if (choir.count == 0) {
            return STATE;
        }
        air.sound(choir);
        return air.sounds[moment];
    }

    public int listen(int k, int moment) {
        if (!choir.has(k)) {
            return UNKNOWN;
        }
        if (!isWithin(moment, 0, LAST_MOMENT)) {
            return OUTSIDE;
        }
        air.sound(choir);
        return choir.listened(k, air.sounds, moment);
    }

    public int loudest(int k, int what) {
        if (!choir.has(k)) {
            return UNKNOWN;
        }
        if (!isWithin(what, 0, 1)) {
            return OUTSIDE;
        }
        air.sound(choir);
        int moment = choir.loudestMoment(k, air.sounds);
        return what == 0 ? moment : choir.listened(k, air.sounds, moment);
    }

    public int day(int sheet, int lane, int i, int n, int what) {
        fault = 0;
        if (!isSheet(sheet)) {
            return UNKNOWN;
        }
        if (!isLane(lane) || !isWithin(n, 0, MOST_PAIRS) || !isDayQuestion(what)) {
            return OUTSIDE;
        }
        if (choir.count == 0) {
            return STATE;
        }
        int found = sheets[sheet].faultAs(lane, i, 2 * n);
        if (found != 0) {
            return faulted(found);
        }
        if (!areActs(sheets[sheet], i, n)) {
            return OUTSIDE;
        }
        dayAir.becomeLike(air);
        int wrong = firstWrong(sheets[sheet], i, n);
        if (what == 1) {
            return wrong;
        }
        return wrong == NONE ? afterDay(what) : WRONG_AT - wrong;
    }

    // ---- 3 good rows

    public int peak(int k, int what) {
        if (!choir.has(k)) {
            return UNKNOWN;
        }
        if (!isWithin(what, 0, 2)) {
            return OUTSIDE;
        }
        int most = -1;
        int mostLate = 0;
        int mostHigh = 0;
        for (int late = -FARTHEST; late <= FARTHEST; late++) {
            for (int high = -FARTHEST; high <= FARTHEST; high++) {
                int heard = late == 0 && high == 0 ? -1 : choir.heard(k, k, late, high);
                if (heard > most) {
                    most = heard;
                    mostLate = late;
                    mostHigh = high;
                }
            }
        }
        if (what == 0) {
            return most;
        }
        return what == 1 ? mostLate : mostHigh;
    }

    public int clash(int k, int whose) {
        if (!choir.has(k) || !choir.has(whose)) {
            return UNKNOWN;
        }
        int most = 0;
        for (int late = -FARTHEST; late <= FARTHEST; late++) {
            for (int high = -FARTHEST; high <= FARTHEST; high++) {
                most = Math.max(most, choir.heard(k, whose, late, high));
            }
        }
        return most;
    }

    public int rows() {
        if (choir.count == 0) {
            return STATE;
        }
        goodRows.makeFor(choir.beats);
        return goodRows.count;
    }

    public int ways(int k, int i) {
        if (!choir.has(k)) {
            return UNKNOWN;
        }
        if (!isWithin(i, -1, MOST_BEATS - 1)) {
            return OUTSIDE;
        }
        goodRows.makeFor(choir.beats);
        int[] pitch = choir.callers[k].pitch;
        return i == -1 ? goodRows.countLike(pitch) : goodRows.pitchOf(goodRows.firstLike(pitch), i);
    }

    public int next(int k, int i) {
        if (!choir.has(k)) {
            return UNKNOWN;
        }
        if (!isWithin(i, 0, MOST_BEATS - 1)) {
            return OUTSIDE;
        }
        if (choir.callers[k].freeBeats(choir.beats) > 0) {
            return STATE;
        }
        goodRows.makeFor(choir.beats);
        return goodRows.pitchOf(goodRows.firstBehind(choir.callers[k].pitch), i);
    }

    // ---- 4 what was heard

    public int reading(int k, int whose, int late, int high, int v) {
        if (!choir.has(k) || !choir.has(whose)) {
            return UNKNOWN;
        }
        if (!isShift(late) || !isShift(high) || !isWithin(v, 0, MOST_HEARD)) {
            return OUTSIDE;
        }
        return readings.add(k, whose, late, high, v) ? readings.count - 1 : FULL;
    }

    public int back(int m) {
        return readings.takeBack(m) ? readings.count : OUTSIDE;
    }

    public int kinds(int k) {
        if (!choir.has(k)) {
            return UNKNOWN;
        }
        Caller caller = choir.callers[k];
        int was = caller.kind;
        int set = 0;
        for (int kind = PLAIN; kind <= KEEN; kind++) {
            caller.kind = kind;
            if (readings.areSo(choir)) {
                set |= 1 << kind;
            }
        }
        caller.kind = was;
        return set;
    }

    public int pitches(int k, int beat) {
        if (!choir.has(k) || !choir.hasBeat(beat)) {
            return UNKNOWN;
        }
        int[] pitch = choir.callers[k].pitch;
        int was = pitch[beat];
        int set = 0;
        for (int v = 0; v < choir.beats; v++) {
            pitch[beat] = v;
            if (readings.areSo(choir)) {
                set |= 1 << v;
            }
        }
        pitch[beat] = was;
        return set;
    }

    public long odds(int k, int v, int which) {
        if (!choir.has(k) || !isWithin(v, 0, MOST_HEARD) || !isWithin(which, 0, 1)) {
            return LOST;
        }
        int upper = 0;
        for (int late = -FARTHEST; late <= FARTHEST; late++) {
            for (int high = -FARTHEST; high <= FARTHEST; high++) {
                boolean isShifted = late != 0 || high != 0;
                if (isShifted && choir.heard(k, k, late, high) >= v) {
                    upper++;
                }
            }
        }
        return inLeastTerms(which == 0 ? upper : SHIFTS_BUT_NONE, upper);
    }

    // ---- 5 sheets, parts

    public int sheet(int k, int lane, int n) {
        fault = 0;
        if (!isSheet(k)) {
            return UNKNOWN;
        }
        if (!isLane(lane) || n > MOST_CELLS) {
            return OUTSIDE;
        }
        if (n < 0) {
            return faulted(FAULT_SIZE);
        }
        sheets[k].begin(lane, n);
        return 1;
    }

    public int lose(int k) {
        if (!isSheet(k)) {
            return UNKNOWN;
        }
        int had = sheets[k].hasRow ? 1 : 0;
        sheets[k].hasRow = false;
        return had;
    }

    public int put(int k, int i, int v) {
        fault = 0;
        if (!isSheet(k)) {
            return UNKNOWN;
        }
        if (!sheets[k].hasRow) {
            return faulted(FAULT_NULL);
        }
        if (!sheets[k].holds(i, 1)) {
            return faulted(FAULT_INDEX);
        }
        sheets[k].write(i, v);
        return 1;
    }

    public long cell(int k, int i, int lane) {
        fault = 0;
        if (!isSheet(k) || !isLane(lane)) {
            return LOST;
        }
        fault = sheets[k].faultAs(lane, i, 1);
        return fault == 0 ? sheets[k].cells[i] : LOST;
    }

    public int copy(int k, int i, int other, int j, int n) {
        fault = 0;
        if (!isSheet(k) || !isSheet(other)) {
            return UNKNOWN;
        }
        Sheet from = sheets[k];
        Sheet to = sheets[other];
        if (!from.hasRow || !to.hasRow) {
            return faulted(FAULT_NULL);
        }
        if (from.lane != to.lane) {
            return faulted(FAULT_CAST);
        }
        if (!from.holds(i, n) || !to.holds(j, n)) {
            return faulted(FAULT_INDEX);
        }
        System.arraycopy(from.cells, i, to.cells, j, n);
        return n;
    }

    public int tell(int k) {
        if (!choir.has(k)) {
            return UNKNOWN;
        }
        Caller caller = choir.callers[k];
        if (caller.kind == KEEN) {
            return keenTelling(caller);
        }
        return caller.kind == BROAD ? broadTelling(caller) : plainTelling(caller);
    }

    public int hail(int k) {
        if (!choir.has(k)) {
            return UNKNOWN;
        }
        return choir.callers[k].kind == KEEN ? keenHail() : lentHail(k);
    }

    public int as(int k, int kind) {
        fault = 0;
        if (!choir.has(k)) {
            return UNKNOWN;
        }
        if (!isWithin(kind, PLAIN, KEEN)) {
            return OUTSIDE;
        }
        // Each kind is one of every kind below it, too.
        return choir.callers[k].kind >= kind ? 1 : faulted(FAULT_CAST);
    }

    public int trace() {
        return trace;
    }

    public int fault() {
        return fault;
    }

    public int many(int what) {
        switch (what) {
            case 0:
                return choir.count;
            case 1:
                return choir.beats;
            case 2:
                return air.count;
            case 3:
                return choir.freeBeatsOfAll();
            case 4:
                return readings.count;
            default:
                return OUTSIDE;
        }
    }

    // ---- what the calls share

    private static boolean isWithin(int v, int least, int most) {
        return v >= least && v <= most;
    }

    private static boolean isShift(int v) {
        return isWithin(v, -FARTHEST, FARTHEST);
    }

    private static boolean isSheet(int k) {
        return isWithin(k, 0, SHEETS - 1);
    }

    private static boolean isLane(int lane) {
        return isWithin(lane, LANE_BYTES, LANE_INTS);
    }

    private static boolean isDayQuestion(int what) {
        return isWithin(what, 0, 4) || isWithin(what, 10, 13);
    }

    /** Keeps the fault for fault() and gives the answer that tells it. */
    private int faulted(int which) {
        fault = which;
        return -10 - which;
    }

    private int toldPitch(Caller caller, int beat) {
        if (!choir.hasBeat(beat) || caller.pitch[beat] == FREE) {
            return NONE;
        }
        return caller.pitch[beat];
    }

    /** What either number of the share, upper of all shifts but none, is in least terms. */
    private static int inLeastTerms(int number, int upper) {
        for (int divisor = SHIFTS_BUT_NONE; divisor > 1; divisor--) {
            if (upper % divisor == 0 && SHIFTS_BUT_NONE % divisor == 0) {
                return number / divisor;
            }
        }
        return number;
    }

    private static boolean areActs(Sheet sheet, int from, int pairs) {
        for (int pair = 0; pair < pairs; pair++) {
            int first = sheet.cells[from + 2 * pair];
            int second = sheet.cells[from + 2 * pair + 1];
            boolean isSent = isWithin(second, 0, MOST_CALLERS - 1) && isWithin(first, 0, LAST_SENDING);
            boolean isTakenBack = second == TAKEN_BACK && isWithin(first, 0, MOST_SENDINGS);
            if (!isSent && !isTakenBack) {
                return false;
            }
        }
        return true;
    }

    /** Does the acts in dayAir, up to the first that can't be. */
    private int firstWrong(Sheet sheet, int from, int pairs) {
        for (int pair = 0; pair < pairs; pair++) {
            int first = sheet.cells[from + 2 * pair];
            int second = sheet.cells[from + 2 * pair + 1];
            boolean canBe = second == TAKEN_BACK
                    ? dayAir.takeBack(first)
                    : choir.has(second) && dayAir.add(second, first, 0);
            if (!canBe) {
                return pair;
            }
        }
        return NONE;
    }

    private int afterDay(int what) {
        dayAir.sound(choir);
        switch (what) {
            case 0:
                return dayAir.count;
            case 2:
                return dayAir.soundingMoments();
            case 3:
                return dayAir.lastSounding();
            case 4:
                return dayAir.firstOfTwo();
            default:
                return mostListened(what - 10, dayAir.sounds);
        }
    }

    private int mostListened(int k, int[] sounds) {
        if (!choir.has(k)) {
            return NONE;
        }
        return choir.listened(k, sounds, choir.loudestMoment(k, sounds));
    }

    private void leave(int body) {
        trace = 31 * trace + body;
    }

    private int plainTelling(Caller caller) {
        leave(1);
        return choir.beats - caller.freeBeats(choir.beats);
    }

    private int broadTelling(Caller caller) {
        leave(2);
        return plainTelling(caller) + 100;
    }

    private int keenTelling(Caller caller) {
        leave(3);
        int broad = broadTelling(caller);
        return broad + plainTelling(caller);
    }

    private int lentHail(int k) {
        leave(4);
        return k;
    }

    private int keenHail() {
        leave(5);
        return 60;
    }

    /** One who calls: his kind, and the pitch of each beat of his call, or FREE. */
    private static final class Caller {
        int kind;
        final int[] pitch = new int[MOST_BEATS];

        int freeBeats(int beats) {
            int free = 0;
            for (int i = 0; i < beats; i++) {
                if (pitch[i] == FREE) {
                    free++;
                }
            }
            return free;
        }

        /** What one of his kind counts where there is the same pitch, one beside. */
        int counted(boolean same, boolean beside) {
            int plain = same ? 1 : 0;
            int broad = same || beside ? 1 : 0;
            if (kind == PLAIN) {
                return plain;
            }
            return kind == BROAD ? broad : broad + plain;
        }
    }

    /** The callers of the latest text, and what they hear. */
    private static final class Choir {
        final Caller[] callers = new Caller[MOST_CALLERS];
        int count;
        int beats;

        Choir() {
            for (int k = 0; k < MOST_CALLERS; k++) {
                callers[k] = new Caller();
            }
        }

        boolean has(int k) {
            return isWithin(k, 0, count - 1);
        }

        boolean hasBeat(int beat) {
            return isWithin(beat, 0, beats - 1);
        }

        int freeBeatsOfAll() {
            int free = 0;
            for (int k = 0; k < count; k++) {
                free += callers[k].freeBeats(beats);
            }
            return free;
        }

        /** Takes the callers of a text that has been read and is whole. */
        void take(Sheet text, int from, int howMany) {
            beats = text.cells[from + 1] - '0';
            count = howMany;
            int place = from + 2;
            for (int k = 0; k < count; k++) {
                callers[k].kind = TextReader.kindOf(text.cells[place + 1]);
                place += 2;
                for (int i = 0; i < beats; i++) {
                    int code = text.cells[place];
                    callers[k].pitch[i] = code == '-' ? FREE : code - '0';
                    place++;
                }
            }
        }

        int heard(int k, int whose, int late, int high) {
            Caller caller = callers[k];
            int[] call = callers[whose].pitch;
            int sum = 0;
            for (int i = 0; i < beats; i++) {
                int at = i + late;
                if (hasBeat(at) && call[i] != FREE && caller.pitch[at] != FREE) {
                    int apart = caller.pitch[at] - (call[i] + high);
                    sum += caller.counted(apart == 0, apart == 1 || apart == -1);
                }
            }
            return sum;
        }

        /** What a caller listens to from a moment on; sounds has a set for each moment. */
        int listened(int k, int[] sounds, int moment) {
            Caller caller = callers[k];
            int sum = 0;
            for (int i = 0; i < beats && moment + i <= LAST_MOMENT; i++) {
                int pitch = caller.pitch[i];
                if (pitch != FREE) {
                    int set = sounds[moment + i];
                    int besides = set << 1 | set >> 1;
                    sum += caller.counted((set >> pitch & 1) == 1, (besides >> pitch & 1) == 1);
                }
            }
            return sum;
        }

        int loudestMoment(int k, int[] sounds) {
            int most = -1;
            int loudest = 0;
            for (int moment = 0; moment <= LAST_MOMENT; moment++) {
                int listened = listened(k, sounds, moment);
                if (listened > most) {
                    most = listened;
                    loudest = moment;
                }
            }
            return loudest;
        }
    }

    /** Reads codes one by one, for as long as some text goes on with them. */
    private static final class TextReader {
        int beats;
        int callers;
        /** How many codes of the caller that is being read there have been. */
        int part;
        /** Whether what was read is a text. */
        boolean whole;

        /** The place of the first code that does not go on; n, if there is none. */
        int readUpTo(Sheet sheet, int from, int n) {
            beats = 0;
            callers = 0;
            part = 0;
            whole = false;
            for (int place = 0; place < n; place++) {
                if (!goesOn(place, sheet.cells[from + place])) {
                    return place;
                }
            }
            whole = callers > 0 && part == 0;
            return n;
        }

        private boolean goesOn(int place, int code) {
            if (place == 0) {
                return code == 'c';
            }
            if (place == 1) {
                beats = code - '0';
                return isWithin(code, '0' + FEWEST_BEATS, '0' + MOST_BEATS);
            }
            if (!fitsPart(code)) {
                return false;
            }
            part++;
            if (part == beats + 2) {
                part = 0;
                callers++;
            }
            return true;
        }

        private boolean fitsPart(int code) {
            if (part == 0) {
                return code == ';' && callers < MOST_CALLERS;
            }
            if (part == 1) {
                return kindOf(code) != NONE;
            }
            return code == '-' || isWithin(code, '0', '0' + beats - 1);
        }

        static int kindOf(int code) {
            switch (code) {
                case 'p':
                    return PLAIN;
                case 'b':
                    return BROAD;
                case 'k':
                    return KEEN;
                default:
                    return NONE;
            }
        }
    }

    /** What is numbered by how many there are, and taken back from its end. */
    private abstract static class Numbered {
        int count;

        final boolean takeBack(int m) {
            if (!isWithin(m, 0, count)) {
                return false;
            }
            count -= m;
            return true;
        }
    }

    /** Sendings, and what sounds by them. */
    private static final class Air extends Numbered {
        final int[] whose = new int[MOST_SENDINGS];
        final int[] moment = new int[MOST_SENDINGS];
        final int[] high = new int[MOST_SENDINGS];
        /** For each moment its pitches as a set, as of the latest sound(). */
        final int[] sounds = new int[LAST_MOMENT + 1];

        boolean add(int k, int from, int higher) {
            if (count >= MOST_SENDINGS) {
                return false;
            }
            whose[count] = k;
            moment[count] = from;
            high[count] = higher;
            count++;
            return true;
        }

        void becomeLike(Air other) {
            count = other.count;
            System.arraycopy(other.whose, 0, whose, 0, count);
            System.arraycopy(other.moment, 0, moment, 0, count);
            System.arraycopy(other.high, 0, high, 0, count);
        }

        /** Lets all sendings sound with the calls as they are now. */
        void sound(Choir choir) {
            Arrays.fill(sounds, 0);
            for (int s = 0; s < count; s++) {
                int[] pitch = choir.callers[whose[s]].pitch;
                for (int i = 0; i < choir.beats; i++) {
                    if (pitch[i] != FREE) {
                        sounds[moment[s] + i] |= 1 << (pitch[i] + high[s]);
                    }
                }
            }
        }

        int soundingMoments() {
            int sounding = 0;
            for (int set : sounds) {
                if (set != 0) {
                    sounding++;
                }
            }
            return sounding;
        }

        int lastSounding() {
            for (int t = LAST_MOMENT; t >= 0; t--) {
                if (sounds[t] != 0) {
                    return t;
                }
            }
            return NONE;
        }

        int firstOfTwo() {
            for (int t = 0; t <= LAST_MOMENT; t++) {
                if (Integer.bitCount(sounds[t]) >= 2) {
                    return t;
                }
            }
            return NONE;
        }
    }

    /** What was heard of whom by which shift. */
    private static final class Readings extends Numbered {
        final int[] hearer = new int[MOST_READINGS];
        final int[] whose = new int[MOST_READINGS];
        final int[] late = new int[MOST_READINGS];
        final int[] high = new int[MOST_READINGS];
        final int[] heard = new int[MOST_READINGS];

        boolean add(int k, int of, int byLate, int byHigh, int v) {
            if (count >= MOST_READINGS) {
                return false;
            }
            hearer[count] = k;
            whose[count] = of;
            late[count] = byLate;
            high[count] = byHigh;
            heard[count] = v;
            count++;
            return true;
        }

        boolean areSo(Choir choir) {
            for (int r = 0; r < count; r++) {
                if (choir.heard(hearer[r], whose[r], late[r], high[r]) != heard[r]) {
                    return false;
                }
            }
            return true;
        }
    }

    /**
     * All good rows of so many beats, in their order, each as a number with
     * three bits a pitch, so that the order of rows is that of the numbers.
     */
    private static final class GoodRows {
        int beats;
        int count;
        final int[] codes = new int[MOST_GOOD];
        final int[] row = new int[MOST_BEATS];

        /** The rows depend on nothing but the beats, so they are kept until these change. */
        void makeFor(int howMany) {
            if (beats != howMany && howMany <= MOST_BEATS) {
                beats = howMany;
                count = 0;
                grow(this, 0);
            }
        }

        private static void grow(GoodRows rows, int beat) {
            if (beat >= rows.beats) {
                rows.keep();
                return;
            }
            for (int v = 0; v < rows.beats; v++) {
                rows.row[beat] = v;
                if (staysGood(rows.row, beat)) {
                    grow(rows, beat + 1);
                }
            }
        }

        private void keep() {
            if (count < MOST_GOOD) {
                codes[count] = codeOf(row);
                count++;
            }
        }

        static boolean isGood(int[] pitch, int beats) {
            for (int i = 0; i < beats; i++) {
                if (pitch[i] == FREE || !staysGood(pitch, i)) {
                    return false;
                }
            }
            return true;
        }

        /**
         * Whether a row that is good ahead of a beat is so with it, too: two
         * beats that fit by one shift are as far apart, and as much higher.
         */
        private static boolean staysGood(int[] pitch, int beat) {
            for (int late = 1; late <= beat; late++) {
                int high = pitch[beat] - pitch[beat - late];
                if (high == 0) {
                    return false;
                }
                for (int i = late; i < beat; i++) {
                    if (pitch[i] - pitch[i - late] == high) {
                        return false;
                    }
                }
            }
            return true;
        }

        private int codeOf(int[] pitch) {
            int code = 0;
            for (int i = 0; i < beats; i++) {
                code = code << 3 | pitch[i];
            }
            return code;
        }

        /** The pitch of a beat of a row by its number; NONE of no row, no such beat. */
        int pitchOf(int code, int beat) {
            if (code == NONE || beat >= beats) {
                return NONE;
            }
            return code >> 3 * (beats - 1 - beat) & 7;
        }

        private boolean isLike(int code, int[] pitch) {
            for (int i = 0; i < beats; i++) {
                if (pitch[i] != FREE && pitch[i] != pitchOf(code, i)) {
                    return false;
                }
            }
            return true;
        }

        int countLike(int[] pitch) {
            int like = 0;
            for (int r = 0; r < count; r++) {
                if (isLike(codes[r], pitch)) {
                    like++;
                }
            }
            return like;
        }

        int firstLike(int[] pitch) {
            for (int r = 0; r < count; r++) {
                if (isLike(codes[r], pitch)) {
                    return codes[r];
                }
            }
            return NONE;
        }

        int firstBehind(int[] pitch) {
            int code = codeOf(pitch);
            for (int r = 0; r < count; r++) {
                if (codes[r] > code) {
                    return codes[r];
                }
            }
            return NONE;
        }
    }

    /** A sheet: nothing, or a row of cells of a lane. */
    private static final class Sheet {
        boolean hasRow;
        int lane;
        int length;
        final int[] cells = new int[MOST_CELLS];

        void begin(int newLane, int n) {
            hasRow = true;
            lane = newLane;
            length = n;
            Arrays.fill(cells, 0);
        }

        /** Whether there are n cells from i on. */
        boolean holds(int i, int n) {
            return n >= 0 && n <= length && i >= 0 && i <= length - n;
        }

        /** The fault of taking n cells from i on as a row of a lane; 0, if there is none. */
        int faultAs(int wanted, int i, int n) {
            if (!hasRow) {
                return FAULT_NULL;
            }
            if (lane != wanted) {
                return FAULT_CAST;
            }
            if (n < 0) {
                return FAULT_SIZE;
            }
            return holds(i, n) ? 0 : FAULT_INDEX;
        }

        void write(int i, int v) {
            if (lane == LANE_BYTES) {
                cells[i] = (byte) v;
            } else if (lane == LANE_SHORTS) {
                cells[i] = (short) v;
            } else {
                cells[i] = v;
            }
        }
    }
}
