/**
 * Four logs of keyed records in segments, with compaction, retention, members that read them,
 * and what can be asked of all that. The document DOC.md says what each call promises.
 */
public final class KeyedLogs {
    public static final int NONE = -1, BAD = -2, STATE = -3, FULL = -4;
    public static final long NO = Long.MIN_VALUE;

    private static final int NOT_THERE = -5;
    private static final int FAULT = -10;
    private static final int NOTHING = -11, CAST = -12, PLACE = -13, SIZE = -14, STORED = -16;

    private static final int LOGS = 4, KEYS = 26, MEMBERS = 4, TAPES = 6;
    private static final int MOST_RECORDS = 200, MOST_SIZE = 9;
    private static final int MOST_TICK = 99, MOST_TIME = 9999;
    private static final int MOST_GRACE = 99, MOST_KEEP = 999, MOST_AGE = 999;
    private static final int MOST_NEED = 200, MOST_START = 200;
    private static final int MOST_PLACES = 60;
    private static final int MOST_SIGN = 127;

    private final Store live;
    private final Text text;
    private final KeptRow keptRow;
    private final Tape[] tapes;
    /** Null until the first image is taken. */
    private Store taken;
    /** Where a plan is tried out; null until the first trial, as most objects never try one. */
    private Store trial;

    public KeyedLogs() {
        live = new Store();
        text = new Text();
        keptRow = new KeptRow();
        tapes = new Tape[TAPES];
        for (int i = 0; i < TAPES; i++) {
            tapes[i] = new Tape();
        }
    }

    // ---- records

    public int put(int log, int key, int num, int den, int size) {
        return recordComes(log, key, Log.VALUE, Floats.quotient(num, den), size);
    }

    public int tomb(int log, int key, int size) {
        return recordComes(log, key, Log.TOMB, 0, size);
    }

    public int tick(int n) {
        if (n < 0 || n > MOST_TICK) {
            return BAD;
        }
        if (live.time + n > MOST_TIME) {
            return STATE;
        }
        live.time += n;
        return live.time;
    }

    public int set(int what, int n) {
        switch (what) {
            case 0:
                return setGrace(n);
            case 1:
                return setKeep(n);
            case 2:
                return setAge(n);
            default:
                return NONE;
        }
    }

    public int compact(int log) {
        return isLog(log) ? live.logs[log].compacted(live.time, live.grace) : NONE;
    }

    public int retain(int log) {
        return isLog(log) ? live.logs[log].retained(live.keep, live.time, live.age) : NONE;
    }

    public int feed(int sign) {
        if (sign < 0 || sign > MOST_SIGN) {
            return BAD;
        }
        return text.isFull() ? FULL : text.takeSign(sign);
    }

    public int read() {
        boolean wellFormed = text.parsed();
        int fault = text.at;
        text.length = 0;
        return wellFormed ? clausesCome() : FAULT - fault;
    }

    public int of(int log, int what) {
        if (!isLog(log)) {
            return NONE;
        }
        Log it = live.logs[log];
        switch (what) {
            case 0:
                return it.records();
            case 1:
                return it.start();
            case 2:
                return it.end;
            case 3:
                return it.segments;
            case 4:
                return it.sizesIn(0, it.end);
            case 5:
                return it.end - it.start() - it.records();
            case 6:
                return it.mapSize(it.end);
            case 7:
                return live.group.owner[log];
            case 8:
                return live.group.done[log];
            case 9:
                return it.atOrBehind(0);
            case 10:
                return it.atOrBefore(it.end);
            default:
                return NONE;
        }
    }

    public long record(int log, int offset, int what) {
        if (!isLog(log) || !live.logs[log].has(offset)) {
            return NO;
        }
        Log it = live.logs[log];
        switch (what) {
            case 0:
                return it.keys[offset];
            case 1:
                return it.times[offset];
            case 2:
                return it.sizes[offset];
            case 3:
                return it.forms[offset] == Log.TOMB ? 1 : 0;
            case 4:
                return it.forms[offset] == Log.TOMB ? NO : it.bits[offset];
            case 5:
                return it.segmentOf(offset);
            default:
                return NO;
        }
    }

    public int segment(int log, int k, int what) {
        if (!isLog(log) || k < 0 || k >= live.logs[log].segments) {
            return NONE;
        }
        Log it = live.logs[log];
        switch (what) {
            case 0:
                return it.bases[k];
            case 1:
                return it.recordsIn(it.bases[k], it.segmentEnd(k));
            case 2:
                return it.sizesIn(it.bases[k], it.segmentEnd(k));
            case 3:
                return it.isClosed(k) ? 1 : 0;
            default:
                return NONE;
        }
    }

    // ---- what a log comes to

    public long value(int log, int key) {
        return isLog(log) && isKey(key) ? live.logs[log].mapValue(key, live.logs[log].end) : NO;
    }

    public long map(int log, int what) {
        if (!isLog(log)) {
            return NO;
        }
        Log it = live.logs[log];
        switch (what) {
            case 0:
                return it.mapSize(it.end);
            case 1:
                return it.mapSum();
            case 2:
                return it.mapLeast();
            case 3:
                return it.mapGreatest();
            case 4:
                return it.mapMean();
            default:
                return NO;
        }
    }

    public long replay(int log, int offset, int key) {
        if (!isLog(log) || offset < 0) {
            return NO;
        }
        if (key == -1) {
            return live.logs[log].mapSize(offset);
        }
        return isKey(key) ? live.logs[log].mapValue(key, offset) : NO;
    }

    public int near(int log, int offset, int how) {
        if (!isLog(log) || how < 0 || how > 1) {
            return NONE;
        }
        return how == 0 ? live.logs[log].atOrBefore(offset) : live.logs[log].atOrBehind(offset);
    }

    public int oldest(int log, int k) {
        return isLog(log) && k >= 0 ? live.logs[log].byAge(k) : NONE;
    }

    public int would(int log, int what) {
        if (!isLog(log) || what < 0 || what > 1) {
            return NONE;
        }
        Log it = live.logs[log];
        return what == 0 ? it.goneIfCompacted(live.time, live.grace)
                : it.goneIfRetained(live.keep, live.time, live.age);
    }

    public int need(int log, int n) {
        if (!isLog(log)) {
            return NONE;
        }
        if (n < 0 || n > MOST_RECORDS) {
            return BAD;
        }
        return leastKeep(live.logs[log], n);
    }

    // ---- members

    public int join(int member) {
        if (!isMember(member)) {
            return NONE;
        }
        return live.group.in[member] ? STATE : live.group.changed(member, true);
    }

    public int leave(int member) {
        if (!isMember(member)) {
            return NONE;
        }
        return live.group.in[member] ? live.group.changed(member, false) : STATE;
    }

    public int poll(int member) {
        if (!isMember(member)) {
            return NONE;
        }
        return live.group.in[member] ? live.group.polled(member, live.logs) : STATE;
    }

    public int seek(int log, int n) {
        if (!isLog(log)) {
            return NONE;
        }
        if (n < 0 || n > live.logs[log].end) {
            return BAD;
        }
        int was = live.group.done[log];
        live.group.done[log] = n;
        return was;
    }

    public int member(int member, int what) {
        if (!isMember(member)) {
            return NONE;
        }
        switch (what) {
            case 0:
                return live.group.in[member] ? 1 : 0;
            case 1:
                return live.group.logBits(member);
            case 2:
                return live.group.lag(member, live.logs);
            default:
                return NONE;
        }
    }

    public int told(int what) {
        switch (what) {
            case 0:
                return live.time;
            case 1:
                return live.grace;
            case 2:
                return live.keep;
            case 3:
                return live.age;
            case 4:
                return live.group.reads;
            case 5:
                return live.group.inBits();
            default:
                return NONE;
        }
    }

    // ---- odds, plans, books, rows

    public long odds(int log, int part) {
        if (!isLog(log) || part < 0 || part > 1) {
            return NO;
        }
        int all = 20;
        int harmless = harmlessKeeps(live.logs[log], all);
        int common = commonDivisor(harmless, all);
        return (part == 0 ? harmless : all) / Math.max(common, 1);
    }

    public int plan(int what, int n) {
        if (what == -1) {
            live.plan.size = 0;
            return 0;
        }
        if (what < 0 || what > 3 || what < 2 && !isLog(n) || what == 2 && !isMember(n)) {
            return NONE;
        }
        if (what == 3 && (n < 0 || n > MOST_TICK)) {
            return BAD;
        }
        return live.plan.isFull() ? FULL : live.plan.takeRow(what, n);
    }

    public int ends(int what) {
        if (what < 0 || what > 1) {
            return NONE;
        }
        if (trial == null) {
            trial = new Store();
        }
        trial.copyFrom(live);
        trial.followPlan();
        return what == 0 ? trial.records() : trial.group.reads;
    }

    public int book(int log, int start) {
        if (log == -1) {
            live.book.size = 0;
            return 0;
        }
        if (!isLog(log)) {
            return NONE;
        }
        if (start < 0 || start > MOST_START) {
            return BAD;
        }
        return live.book.isFull() ? FULL : live.book.takeRow(log, start);
    }

    public int looked() {
        return live.firstOtherwise();
    }

    public int keep(int log, int sort, int n) {
        if (!isLog(log)) {
            return NONE;
        }
        if (sort < 0 || sort > 1 || n > MOST_PLACES) {
            return BAD;
        }
        return n < 0 ? SIZE : keptRow.filled(live.logs[log], sort == 1, n);
    }

    public long kept(int k, int what) {
        return k >= 0 && k < keptRow.size ? keptRow.about(k, what) : NO;
    }

    // ---- judging, the image, tapes

    public int judge(int log, int tape, int i) {
        if (!isLog(log) || !isTape(tape)) {
            return NONE;
        }
        if (!tapes[tape].isNothing() && tapes[tape].sort != Tape.SHORTS) {
            return CAST;
        }
        return tapes[tape].judged(live.logs[log], i);
    }

    public int image() {
        if (taken == null) {
            taken = new Store();
        }
        taken.copyFrom(live);
        return live.records();
    }

    public int undo() {
        if (taken == null) {
            return STATE;
        }
        live.copyFrom(taken);
        return live.records();
    }

    public int count(int what) {
        switch (what) {
            case 0:
                return live.records();
            case 1:
                return live.group.membersIn();
            case 2:
                return live.plan.size;
            case 3:
                return live.book.size;
            case 4:
                return text.length;
            default:
                return BAD;
        }
    }

    public int tape(int tape, int sort, int n) {
        if (!isTape(tape)) {
            return NONE;
        }
        if (sort == Tape.NOTHING_HELD) {
            tapes[tape].empty();
            return 1;
        }
        if (sort < 0 || sort > Tape.BOOLEANS || n > MOST_PLACES) {
            return BAD;
        }
        if (n < 0) {
            return SIZE;
        }
        tapes[tape].become(sort, n);
        return 1;
    }

    public int item(int tape, int i, long v) {
        if (!isTape(tape)) {
            return NONE;
        }
        if (tapes[tape].isNothing()) {
            return NOTHING;
        }
        if (!tapes[tape].hasPlace(i)) {
            return PLACE;
        }
        tapes[tape].items[i] = tapes[tape].asItem(v);
        return 1;
    }

    public long peek(int tape, int i) {
        return isTape(tape) && tapes[tape].hasPlace(i) ? tapes[tape].items[i] : NO;
    }

    public int shift(int tape, int i, int other, int j, int n) {
        if (!isTape(tape) || !isTape(other)) {
            return NONE;
        }
        Tape from = tapes[tape];
        Tape to = tapes[other];
        if (from.isNothing() || to.isNothing()) {
            return NOTHING;
        }
        if (from.sort != to.sort) {
            return CAST;
        }
        if (!from.hasPlaces(i, n) || !to.hasPlaces(j, n)) {
            return PLACE;
        }
        System.arraycopy(from.items, i, to.items, j, n);
        return n;
    }

    // ---- helpers of the calls

    private static boolean isLog(int log) {
        return log >= 0 && log < LOGS;
    }

    private static boolean isKey(int key) {
        return key >= 0 && key < KEYS;
    }

    private static boolean isMember(int member) {
        return member >= 0 && member < MEMBERS;
    }

    private static boolean isTape(int tape) {
        return tape >= 0 && tape < TAPES;
    }

    private int recordComes(int log, int key, int form, int bits, int size) {
        if (!isLog(log) || !isKey(key)) {
            return NONE;
        }
        if (size < 1 || size > MOST_SIZE) {
            return BAD;
        }
        Log it = live.logs[log];
        return it.isFull() ? FULL : it.append(key, form, bits, size, live.time);
    }

    private int setGrace(int n) {
        if (n < 0 || n > MOST_GRACE) {
            return BAD;
        }
        int was = live.grace;
        live.grace = n;
        return was;
    }

    private int setKeep(int n) {
        if (n < 0 || n > MOST_KEEP) {
            return BAD;
        }
        int was = live.keep;
        live.keep = n;
        return was;
    }

    private int setAge(int n) {
        if (n < 0 || n > MOST_AGE) {
            return BAD;
        }
        int was = live.age;
        live.age = n;
        return was;
    }

    private int clausesCome() {
        int came = 0;
        for (int i = 0; i < text.clauses; i++) {
            if (recordComes(text.logs[i], text.keys[i], text.forms[i], text.bits[i], 1) >= 0) {
                came++;
            }
        }
        return came;
    }

    /** The greater KEEP is, the fewer segments go, so that halving finds the least. */
    private int leastKeep(Log it, int n) {
        if (it.leftIfRetained(MOST_NEED, live.time, live.age) < n) {
            return NOT_THERE;
        }
        int low = 0;
        int high = MOST_NEED;
        for (int step = 0; step <= MOST_NEED && low < high; step++) {
            int middle = (low + high) / 2;
            if (it.leftIfRetained(middle, live.time, live.age) >= n) {
                high = middle;
            } else {
                low = middle + 1;
            }
        }
        return low;
    }

    /** Of the KEEPS 0, 5, 10 .. how many take no record away. */
    private int harmlessKeeps(Log it, int all) {
        int harmless = 0;
        for (int i = 0; i < all; i++) {
            if (it.goneIfRetained(5 * i, live.time, live.age) == 0) {
                harmless++;
            }
        }
        return harmless;
    }

    private static int commonDivisor(int a, int b) {
        for (int d = b; d > 1; d--) {
            if (a % d == 0 && b % d == 0) {
                return d;
            }
        }
        return 1;
    }

    /**
     * Floats as their bits. NaN lives in bits alone: no float ever holds it, so no sum or
     * quotient can come upon it.
     */
    private static final class Floats {
        private static final int NAN = 0x7fc00000, PLUS_INFINITY = 0x7f800000;
        private static final int MINUS_INFINITY = 0xff800000, MINUS_ZERO = 0x80000000;
        private static final long WIDE_NAN = 0x7ff8000000000000L;
        private static final long WIDE_PLUS_INFINITY = 0x7ff0000000000000L;
        private static final long WIDE_MINUS_INFINITY = 0xfff0000000000000L;
        private static final int FRACTION = 23, BIAS = 127;
        private static final int WIDE_FRACTION = 52, WIDE_BIAS = 1023;

        private static int quotient(int num, int den) {
            if (den == 0) {
                return num == 0 ? NAN : num > 0 ? PLUS_INFINITY : MINUS_INFINITY;
            }
            if (num == 0) {
                return den < 0 ? MINUS_ZERO : 0;
            }
            return bitsOfFloat((float) num / (float) den);
        }

        private static boolean isFinite(int bits) {
            return (bits & PLUS_INFINITY) != PLUS_INFINITY;
        }

        /** What two numbers that are not finite come to when they are added. */
        private static int oddSum(int odd, int other) {
            return odd == other ? odd : NAN;
        }

        private static long widened(int odd) {
            return odd == NAN ? WIDE_NAN : odd < 0 ? WIDE_MINUS_INFINITY : WIDE_PLUS_INFINITY;
        }

        /** Numbers that stand to one another as the floats do under Float.compare. */
        private static int rank(int bits) {
            return bits < 0 ? bits ^ 0x7fffffff : bits;
        }

        /** Of finite bits. Both zeros are 0.0: added to a sum that began with 0.0 they do the same. */
        private static float floatOf(int bits) {
            int exponent = bits >>> FRACTION & 255;
            if (exponent == 0) {
                return 0.0f;
            }
            float a = (float) (bits & 0x7fffff | 0x800000);
            for (int e = exponent; e < BIAS + FRACTION; e++) {
                a = a * 0.5f;
            }
            for (int e = BIAS + FRACTION; e < exponent; e++) {
                a = a * 2.0f;
            }
            return bits < 0 ? -a : a;
        }

        /** Of a finite float; every one that comes up is far above the subnormal ones, or 0.0. */
        private static int bitsOfFloat(float x) {
            if (x == 0.0f) {
                return 0;
            }
            int bits = (int) packed(x < 0.0f ? -x : x, FRACTION, BIAS);
            return x < 0.0f ? bits | MINUS_ZERO : bits;
        }

        private static long bitsOfDouble(double x) {
            if (x == 0.0) {
                return 0;
            }
            long bits = packed(x < 0.0 ? -x : x, WIDE_FRACTION, WIDE_BIAS);
            return x < 0.0 ? bits | Long.MIN_VALUE : bits;
        }

        /** Doubling and halving lose nothing, so the fraction is told to its last bit. */
        private static long packed(double positive, int fraction, int bias) {
            double a = positive;
            int exponent = bias;
            for (int i = 0; i < WIDE_BIAS && a >= 2.0; i++) {
                a = a * 0.5;
                exponent++;
            }
            for (int i = 0; i < WIDE_BIAS && a < 1.0; i++) {
                a = a * 2.0;
                exponent--;
            }
            long one = 1L << fraction;
            return (long) exponent << fraction | (long) ((a - 1.0) * (double) one);
        }
    }

    /**
     * One log. Its rows are by OFFSET, and a record that goes leaves its place empty. A segment
     * is told by its BASE alone: it reaches to the next one's.
     */
    private static final class Log {
        private static final int GONE = 0, VALUE = 1, TOMB = 2;
        private static final int CLOSING_RECORDS = 4, CLOSING_SIZES = 20;
        private static final int JOINED_RECORDS = 8, JOINED_SIZES = 20;

        private final int[] forms;
        private final int[] keys;
        private final int[] times;
        private final int[] sizes;
        private final int[] bits;
        private final int[] bases;
        /** By KEY the OFFSET of its last record; filled anew by each call that needs it. */
        private final int[] last;
        private int end;
        private int segments;

        private Log() {
            forms = new int[MOST_RECORDS];
            keys = new int[MOST_RECORDS];
            times = new int[MOST_RECORDS];
            sizes = new int[MOST_RECORDS];
            bits = new int[MOST_RECORDS];
            // bases differ from one another and are OFFSETS 0 .. 200
            bases = new int[MOST_RECORDS + 1];
            last = new int[KEYS];
            segments = 1;
        }

        private void copyFrom(Log other) {
            System.arraycopy(other.forms, 0, forms, 0, MOST_RECORDS);
            System.arraycopy(other.keys, 0, keys, 0, MOST_RECORDS);
            System.arraycopy(other.times, 0, times, 0, MOST_RECORDS);
            System.arraycopy(other.sizes, 0, sizes, 0, MOST_RECORDS);
            System.arraycopy(other.bits, 0, bits, 0, MOST_RECORDS);
            System.arraycopy(other.bases, 0, bases, 0, MOST_RECORDS + 1);
            end = other.end;
            segments = other.segments;
        }

        private boolean isFull() {
            return end >= MOST_RECORDS;
        }

        /** Only while it is not full. */
        private int append(int key, int form, int valueBits, int size, int time) {
            int offset = end;
            forms[offset] = form;
            keys[offset] = key;
            times[offset] = time;
            sizes[offset] = size;
            bits[offset] = valueBits;
            end++;
            int base = bases[segments - 1];
            if (recordsIn(base, end) >= CLOSING_RECORDS || sizesIn(base, end) >= CLOSING_SIZES) {
                bases[segments] = end;
                segments++;
            }
            return offset;
        }

        private boolean has(int offset) {
            return offset >= 0 && offset < end && forms[offset] != GONE;
        }

        private int start() {
            return bases[0];
        }

        private int records() {
            return recordsIn(0, end);
        }

        private int recordsIn(int from, int to) {
            int n = 0;
            for (int o = Math.max(from, 0); o < to && o < end; o++) {
                if (forms[o] != GONE) {
                    n++;
                }
            }
            return n;
        }

        private int sizesIn(int from, int to) {
            int n = 0;
            for (int o = Math.max(from, 0); o < to && o < end; o++) {
                if (forms[o] != GONE) {
                    n += sizes[o];
                }
            }
            return n;
        }

        private boolean isClosed(int k) {
            return k < segments - 1;
        }

        private int segmentEnd(int k) {
            return isClosed(k) ? bases[k + 1] : end;
        }

        private int segmentOf(int offset) {
            int k = 0;
            while (k < segments - 1 && bases[k + 1] <= offset) {
                k++;
            }
            return k;
        }

        private int atOrBefore(int offset) {
            for (int o = Math.min(offset, end - 1); o >= 0; o--) {
                if (forms[o] != GONE) {
                    return o;
                }
            }
            return NOT_THERE;
        }

        private int atOrBehind(int offset) {
            for (int o = Math.max(offset, 0); o < end; o++) {
                if (forms[o] != GONE) {
                    return o;
                }
            }
            return NOT_THERE;
        }

        // -- compaction

        private int compacted(int time, int grace) {
            // what goes is judged by the log as it was ahead: the last ones are not looked for again
            findLast(end);
            int went = 0;
            for (int o = 0; o < bases[segments - 1]; o++) {
                if (goesCompacted(o, time, grace)) {
                    forms[o] = GONE;
                    went++;
                }
            }
            joinSegments();
            return went;
        }

        private int goneIfCompacted(int time, int grace) {
            findLast(end);
            int going = 0;
            for (int o = 0; o < bases[segments - 1]; o++) {
                if (goesCompacted(o, time, grace)) {
                    going++;
                }
            }
            return going;
        }

        private boolean goesCompacted(int o, int time, int grace) {
            if (forms[o] == GONE) {
                return false;
            }
            return last[keys[o]] > o || forms[o] == TOMB && time - times[o] >= grace;
        }

        private void joinSegments() {
            int k = 0;
            // each step takes a segment away or goes on by one
            for (int step = segments; step > 0 && isClosed(k + 1); step--) {
                if (fitTogether(k)) {
                    dropBases(k + 1, 1);
                } else {
                    k++;
                }
            }
        }

        private boolean fitTogether(int k) {
            int from = bases[k];
            int to = segmentEnd(k + 1);
            return sizesIn(from, to) <= JOINED_SIZES && recordsIn(from, to) <= JOINED_RECORDS;
        }

        private void dropBases(int k, int n) {
            segments -= n;
            for (int i = k; i < segments; i++) {
                bases[i] = bases[i + n];
            }
        }

        // -- retention

        private int retained(int keep, int time, int age) {
            int segmentsGoing = segmentsGoing(keep, time, age);
            int newStart = bases[segmentsGoing];
            int went = recordsIn(0, newStart);
            for (int o = 0; o < newStart; o++) {
                forms[o] = GONE;
            }
            dropBases(0, segmentsGoing);
            return went;
        }

        private int goneIfRetained(int keep, int time, int age) {
            return recordsIn(0, bases[segmentsGoing(keep, time, age)]);
        }

        private int leftIfRetained(int keep, int time, int age) {
            return recordsIn(bases[segmentsGoing(keep, time, age)], end);
        }

        /** How many of the first ones go; the active one never does. */
        private int segmentsGoing(int keep, int time, int age) {
            int sizesLeft = sizesIn(0, end);
            int k = 0;
            while (k < segments - 1 && (sizesLeft > keep || isOutdated(k, time - age))) {
                sizesLeft -= sizesIn(bases[k], bases[k + 1]);
                k++;
            }
            return k;
        }

        /** An empty one is outdated, too: no TIME in it is the limit or above. */
        private boolean isOutdated(int k, int limit) {
            for (int o = bases[k]; o < segmentEnd(k); o++) {
                if (forms[o] != GONE && times[o] >= limit) {
                    return false;
                }
            }
            return true;
        }

        // -- the map

        private void findLast(int limit) {
            for (int key = 0; key < KEYS; key++) {
                last[key] = NOT_THERE;
            }
            for (int o = 0; o < limit && o < end; o++) {
                if (forms[o] != GONE) {
                    last[keys[o]] = o;
                }
            }
        }

        /** Behind findLast. */
        private boolean isMapped(int key) {
            return last[key] >= 0 && forms[last[key]] == VALUE;
        }

        private int mapSize(int limit) {
            findLast(limit);
            int n = 0;
            for (int key = 0; key < KEYS; key++) {
                if (isMapped(key)) {
                    n++;
                }
            }
            return n;
        }

        private long mapValue(int key, int limit) {
            findLast(limit);
            return isMapped(key) ? bits[last[key]] : NO;
        }

        /** The sum of those values that are infinite or NaN; 0: there are none. Behind findLast. */
        private int oddSum() {
            int odd = 0;
            for (int key = 0; key < KEYS; key++) {
                if (isMapped(key) && !Floats.isFinite(bits[last[key]])) {
                    int next = bits[last[key]];
                    odd = odd == 0 ? next : Floats.oddSum(odd, next);
                }
            }
            return odd;
        }

        /** A value's float; of what is not there or not finite 0.0, which adds nothing. */
        private float summand(int key) {
            boolean counts = isMapped(key) && Floats.isFinite(bits[last[key]]);
            return counts ? Floats.floatOf(bits[last[key]]) : 0.0f;
        }

        private int mapSum() {
            findLast(end);
            float sum = 0.0f;
            for (int key = 0; key < KEYS; key++) {
                sum = sum + summand(key);
            }
            int odd = oddSum();
            return odd != 0 ? odd : Floats.bitsOfFloat(sum);
        }

        private long mapMean() {
            int many = mapSize(end);
            int odd = oddSum();
            if (odd != 0 || many == 0) {
                return odd != 0 ? Floats.widened(odd) : NO;
            }
            double sum = 0.0;
            for (int key = 0; key < KEYS; key++) {
                sum = sum + (double) summand(key);
            }
            return Floats.bitsOfDouble(sum / (double) many);
        }

        private long mapLeast() {
            findLast(end);
            long least = NO;
            for (int key = 0; key < KEYS; key++) {
                if (isMapped(key) && (least == NO || rankAt(key) < Floats.rank((int) least))) {
                    least = bits[last[key]];
                }
            }
            return least;
        }

        private long mapGreatest() {
            findLast(end);
            long greatest = NO;
            for (int key = 0; key < KEYS; key++) {
                if (isMapped(key) && (greatest == NO || rankAt(key) > Floats.rank((int) greatest))) {
                    greatest = bits[last[key]];
                }
            }
            return greatest;
        }

        private int rankAt(int key) {
            return Floats.rank(bits[last[key]]);
        }

        // -- the oldest

        /** TIME never falls from one OFFSET to the next, so records of like TIME lie side by side. */
        private int byAge(int k) {
            int toSkip = k;
            for (int from = 0; from < end; from++) {
                if (from == 0 || times[from] != times[from - 1]) {
                    int to = likeTimesEnd(from);
                    int n = recordsIn(from, to);
                    if (toSkip < n) {
                        return bySize(from, to, toSkip);
                    }
                    toSkip -= n;
                }
            }
            return NOT_THERE;
        }

        private int likeTimesEnd(int from) {
            int to = from;
            while (to < end && times[to] == times[from]) {
                to++;
            }
            return to;
        }

        private int bySize(int from, int to, int k) {
            int toSkip = k;
            for (int size = MOST_SIZE; size > 0; size--) {
                for (int o = from; o < to; o++) {
                    if (forms[o] != GONE && sizes[o] == size) {
                        if (toSkip == 0) {
                            return o;
                        }
                        toSkip--;
                    }
                }
            }
            return NOT_THERE;
        }
    }

    /** The members, whose each log is, and how far each log has been read. */
    private static final class Group {
        private final boolean[] in;
        /** By LOG, NOT_THERE for none. */
        private final int[] owner;
        private final int[] ownerAhead;
        private final int[] done;
        private int reads;

        private Group() {
            in = new boolean[MEMBERS];
            owner = new int[LOGS];
            ownerAhead = new int[LOGS];
            done = new int[LOGS];
            for (int log = 0; log < LOGS; log++) {
                owner[log] = NOT_THERE;
            }
        }

        private void copyFrom(Group other) {
            for (int m = 0; m < MEMBERS; m++) {
                in[m] = other.in[m];
            }
            System.arraycopy(other.owner, 0, owner, 0, LOGS);
            System.arraycopy(other.done, 0, done, 0, LOGS);
            reads = other.reads;
        }

        private int membersIn() {
            return Integer.bitCount(inBits());
        }

        private int inBits() {
            int mask = 0;
            for (int m = 0; m < MEMBERS; m++) {
                if (in[m]) {
                    mask |= 1 << m;
                }
            }
            return mask;
        }

        private int logBits(int member) {
            int mask = 0;
            for (int log = 0; log < LOGS; log++) {
                if (owner[log] == member) {
                    mask |= 1 << log;
                }
            }
            return mask;
        }

        private int logsOf(int member) {
            return Integer.bitCount(logBits(member));
        }

        private int lag(int member, Log[] logs) {
            int n = 0;
            for (int log = 0; log < LOGS; log++) {
                if (owner[log] == member) {
                    n += logs[log].recordsIn(done[log], logs[log].end);
                }
            }
            return n;
        }

        private int polled(int member, Log[] logs) {
            for (int log = 0; log < LOGS; log++) {
                int offset = owner[log] == member ? logs[log].atOrBehind(done[log]) : NOT_THERE;
                if (offset >= 0) {
                    done[log] = offset + 1;
                    reads++;
                    return 1000 * log + offset;
                }
            }
            return NOT_THERE;
        }

        /** A member comes in or goes; the logs are shared out anew. Answers the moves. */
        private int changed(int member, boolean comes) {
            in[member] = comes;
            System.arraycopy(owner, 0, ownerAhead, 0, LOGS);
            freeLogsOfAbsent();
            int many = membersIn();
            if (many > 0) {
                int share = LOGS / many;
                freeLogsBeyond(share, LOGS - share * many);
                giveFreeLogs();
            }
            return moves();
        }

        private void freeLogsOfAbsent() {
            for (int log = 0; log < LOGS; log++) {
                if (owner[log] >= 0 && !in[owner[log]]) {
                    owner[log] = NOT_THERE;
                }
            }
        }

        private void freeLogsBeyond(int share, int larger) {
            int largerShares = 0;
            for (int m = 0; m < MEMBERS; m++) {
                if (logsOf(m) > share) {
                    boolean oneMore = largerShares < larger;
                    if (oneMore) {
                        largerShares++;
                    }
                    freeAllButLeast(m, oneMore ? share + 1 : share);
                }
            }
        }

        private void freeAllButLeast(int member, int n) {
            int seen = 0;
            for (int log = 0; log < LOGS; log++) {
                if (owner[log] == member) {
                    seen++;
                    if (seen > n) {
                        owner[log] = NOT_THERE;
                    }
                }
            }
        }

        private void giveFreeLogs() {
            for (int log = 0; log < LOGS; log++) {
                if (owner[log] == NOT_THERE) {
                    owner[log] = leastLaden();
                }
            }
        }

        private int leastLaden() {
            int least = NOT_THERE;
            for (int m = 0; m < MEMBERS; m++) {
                if (in[m] && (least == NOT_THERE || logsOf(m) < logsOf(least))) {
                    least = m;
                }
            }
            return least;
        }

        private int moves() {
            int n = 0;
            for (int log = 0; log < LOGS; log++) {
                if (owner[log] != ownerAhead[log]) {
                    n++;
                }
            }
            return n;
        }
    }

    /** Rows of two numbers, told by hand. */
    private static final class Rows {
        private final int[] first;
        private final int[] second;
        private int size;

        private Rows(int most) {
            first = new int[Math.max(most, 0)];
            second = new int[Math.max(most, 0)];
        }

        private void copyFrom(Rows other) {
            size = Math.min(other.size, first.length);
            System.arraycopy(other.first, 0, first, 0, size);
            System.arraycopy(other.second, 0, second, 0, size);
        }

        private boolean isFull() {
            return size >= first.length;
        }

        /** Only while they are not full. */
        private int takeRow(int a, int b) {
            first[size] = a;
            second[size] = b;
            size++;
            return size;
        }
    }

    /** All that THE IMAGE is of. */
    private static final class Store {
        private static final int MOST_PLAN = 10, MOST_BOOK = 8;

        private final Log[] logs;
        private final Group group;
        private final Rows plan;
        private final Rows book;
        private int time;
        private int grace;
        private int keep;
        private int age;

        private Store() {
            logs = new Log[LOGS];
            for (int log = 0; log < LOGS; log++) {
                logs[log] = new Log();
            }
            group = new Group();
            plan = new Rows(MOST_PLAN);
            book = new Rows(MOST_BOOK);
            grace = 5;
            keep = 100;
            age = 50;
        }

        private void copyFrom(Store other) {
            for (int log = 0; log < LOGS; log++) {
                logs[log].copyFrom(other.logs[log]);
            }
            group.copyFrom(other.group);
            plan.copyFrom(other.plan);
            book.copyFrom(other.book);
            time = other.time;
            grace = other.grace;
            keep = other.keep;
            age = other.age;
        }

        private int records() {
            int n = 0;
            for (int log = 0; log < LOGS; log++) {
                n += logs[log].records();
            }
            return n;
        }

        private void followPlan() {
            for (int i = 0; i < plan.size; i++) {
                follow(plan.first[i], plan.second[i]);
            }
        }

        /** A plan's numbers were looked at when they came. */
        private void follow(int what, int n) {
            switch (what) {
                case 0:
                    logs[n].compacted(time, grace);
                    break;
                case 1:
                    logs[n].retained(keep, time, age);
                    break;
                case 2:
                    // one that is not in has no logs, so that nothing happens
                    group.polled(n, logs);
                    break;
                default:
                    time += n;
                    break;
            }
        }

        private int firstOtherwise() {
            for (int i = 0; i < book.size; i++) {
                if (logs[book.first[i]].start() != book.second[i]) {
                    return i;
                }
            }
            return NOT_THERE;
        }
    }

    /** THE TEXT, and the clauses that the last parsing found in it. */
    private static final class Text {
        private static final int MOST_SIGNS = 100, MOST_CLAUSES = 12;
        private static final int NUM_DIGITS = 4, DEN_DIGITS = 2;

        private final int[] signs;
        private int length;
        private final int[] logs;
        private final int[] keys;
        private final int[] forms;
        private final int[] bits;
        private int clauses;
        /** The sign that is looked at: where parsing stops short, it is the FAULT. */
        private int at;

        private Text() {
            signs = new int[MOST_SIGNS];
            logs = new int[MOST_CLAUSES];
            keys = new int[MOST_CLAUSES];
            forms = new int[MOST_CLAUSES];
            bits = new int[MOST_CLAUSES];
        }

        private boolean isFull() {
            return length >= MOST_SIGNS;
        }

        /** Only while it is not full. */
        private int takeSign(int sign) {
            signs[length] = sign;
            length++;
            return length;
        }

        private boolean parsed() {
            at = 0;
            clauses = 0;
            while (clauses < MOST_CLAUSES) {
                if (!clauseParsed()) {
                    return false;
                }
                clauses++;
                if (at == length) {
                    return true;
                }
                if (clauses == MOST_CLAUSES || !skipped(';')) {
                    return false;
                }
            }
            return false;
        }

        private boolean clauseParsed() {
            if (!isBetween('0', '3')) {
                return false;
            }
            logs[clauses] = signs[at] - '0';
            at++;
            if (!isBetween('a', 'z')) {
                return false;
            }
            keys[clauses] = signs[at] - 'a';
            at++;
            if (skipped('-')) {
                forms[clauses] = Log.TOMB;
                bits[clauses] = 0;
                return true;
            }
            forms[clauses] = Log.VALUE;
            return skipped('=') && valueParsed();
        }

        private boolean valueParsed() {
            boolean negative = skipped('-');
            if (!isBetween('0', '9')) {
                return false;
            }
            int num = digits(NUM_DIGITS);
            int den = 1;
            if (skipped('/')) {
                if (!isBetween('0', '9')) {
                    return false;
                }
                den = digits(DEN_DIGITS);
            }
            bits[clauses] = Floats.quotient(negative ? -num : num, den);
            return true;
        }

        private int digits(int most) {
            int n = 0;
            for (int i = 0; i < most && isBetween('0', '9'); i++) {
                n = 10 * n + signs[at] - '0';
                at++;
            }
            return n;
        }

        private boolean isBetween(char low, char high) {
            return at < length && signs[at] >= low && signs[at] <= high;
        }

        private boolean skipped(char sign) {
            if (!isBetween(sign, sign)) {
                return false;
            }
            at++;
            return true;
        }
    }

    /** KEPT: what records were when they were put there. */
    private static final class KeptRow {
        private final int[] offsets;
        private final int[] keys;
        private final int[] forms;
        private final int[] bits;
        private int size;

        private KeptRow() {
            offsets = new int[MOST_PLACES];
            keys = new int[MOST_PLACES];
            forms = new int[MOST_PLACES];
            bits = new int[MOST_PLACES];
        }

        private int filled(Log from, boolean valuesAlone, int places) {
            size = 0;
            for (int o = 0; o < from.end; o++) {
                if (from.has(o)) {
                    if (size >= places || size >= MOST_PLACES) {
                        return PLACE;
                    }
                    if (valuesAlone && from.forms[o] == Log.TOMB) {
                        return STORED;
                    }
                    takeRecord(from, o);
                }
            }
            return size;
        }

        private void takeRecord(Log from, int o) {
            offsets[size] = o;
            keys[size] = from.keys[o];
            forms[size] = from.forms[o];
            bits[size] = from.bits[o];
            size++;
        }

        private long about(int k, int what) {
            switch (what) {
                case 0:
                    return offsets[k];
                case 1:
                    return keys[k];
                case 2:
                    return forms[k] == Log.TOMB ? 1 : 0;
                case 3:
                    return forms[k] == Log.TOMB ? NO : bits[k];
                default:
                    return NO;
            }
        }
    }

    /** A row of items of one sort, each held as the long that it is. */
    private static final class Tape {
        private static final int NOTHING_HELD = -1;
        private static final int BYTES = 0, SHORTS = 1, INTS = 2, LONGS = 3, BOOLEANS = 4;
        private static final int JUDGED_TO_THE_END = 100;

        private final long[] items;
        private int sort;
        private int length;

        private Tape() {
            items = new long[MOST_PLACES];
            sort = NOTHING_HELD;
        }

        private boolean isNothing() {
            return sort == NOTHING_HELD;
        }

        private void empty() {
            sort = NOTHING_HELD;
            length = 0;
        }

        private void become(int newSort, int n) {
            sort = newSort;
            length = Math.min(n, MOST_PLACES);
            for (int i = 0; i < MOST_PLACES; i++) {
                items[i] = 0;
            }
        }

        private boolean hasPlace(int i) {
            return i >= 0 && i < length;
        }

        private boolean hasPlaces(int i, int n) {
            return i >= 0 && n >= 0 && i <= length && n <= length - i;
        }

        private long asItem(long v) {
            switch (sort) {
                case BYTES:
                    return (byte) v;
                case SHORTS:
                    return (short) v;
                case INTS:
                    return (int) v;
                case LONGS:
                    return v;
                default:
                    return v != 0 ? 1 : 0;
            }
        }

        private int judged(Log log, int i) {
            int seen = 0;
            for (int o = 0; o < log.end; o++) {
                if (log.has(o)) {
                    if (i < 0 || seen >= length - i) {
                        return JUDGED_TO_THE_END + seen;
                    }
                    if (items[i + seen] != o) {
                        return seen;
                    }
                    seen++;
                }
            }
            return NOT_THERE;
        }
    }
}
