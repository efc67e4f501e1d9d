import java.util.ArrayList;
import java.util.Comparator;
import java.util.List;
import java.util.TreeMap;
import java.util.regex.Matcher;
import java.util.regex.Pattern;

/**
 * The document once more, in the library's own means and another shape (lists of records in
 * lists of segments, real floats), so that KeyedLogs can be held against it.
 */
public final class Model {
    static final int NONE = -1, BAD = -2, STATE = -3, FULL = -4;
    static final long NO = Long.MIN_VALUE;
    private static final Pattern TEXT;

    static {
        String clause = "[0-3][a-z](?:-|=-?[0-9]{1,4}(?:/[0-9]{1,2})?)";
        TEXT = Pattern.compile(clause + "(?:;" + clause + "){0,11}");
    }

    record Rec(int offset, int key, int time, int size, boolean tomb, float value) { }

    static final class Seg {
        int base;
        List<Rec> recs = new ArrayList<>();

        int sizes() {
            return recs.stream().mapToInt(Rec::size).sum();
        }
    }

    static final class Partition {
        List<Seg> segs = new ArrayList<>();
        int came = 0;

        List<Rec> all() {
            List<Rec> all = new ArrayList<>();
            segs.forEach(s -> all.addAll(s.recs));
            return all;
        }

        int sizes() {
            return segs.stream().mapToInt(Seg::sizes).sum();
        }

        Seg active() {
            return segs.get(segs.size() - 1);
        }

        void begin() {
            Seg s = new Seg();
            s.base = came;
            segs.add(s);
        }

        TreeMap<Integer, Float> map(int limit) {
            TreeMap<Integer, Float> map = new TreeMap<>();
            for (Rec r : all()) {
                if (r.offset() < limit) {
                    if (r.tomb()) {
                        map.remove(r.key());
                    } else {
                        map.put(r.key(), r.value());
                    }
                }
            }
            return map;
        }

        Partition copy() {
            Partition p = new Partition();
            p.came = came;
            for (Seg s : segs) {
                Seg t = new Seg();
                t.base = s.base;
                t.recs.addAll(s.recs);
                p.segs.add(t);
            }
            return p;
        }
    }

    static final class World {
        List<Partition> logs = new ArrayList<>();
        int time = 0, grace = 5, keep = 100, age = 50, reads = 0;
        boolean[] in = new boolean[4];
        int[] owner = {-5, -5, -5, -5};
        int[] done = new int[4];
        List<int[]> plan = new ArrayList<>();
        List<int[]> book = new ArrayList<>();

        World copy() {
            World w = new World();
            logs.forEach(p -> w.logs.add(p.copy()));
            w.time = time;
            w.grace = grace;
            w.keep = keep;
            w.age = age;
            w.reads = reads;
            w.in = in.clone();
            w.owner = owner.clone();
            w.done = done.clone();
            w.plan.addAll(plan);
            w.book.addAll(book);
            return w;
        }

        int records() {
            return logs.stream().mapToInt(p -> p.all().size()).sum();
        }

        int compact(int log) {
            Partition p = logs.get(log);
            List<Rec> ahead = p.all();
            int went = 0;
            for (int k = 0; k + 1 < p.segs.size(); k++) {
                List<Rec> stay = new ArrayList<>();
                for (Rec r : p.segs.get(k).recs) {
                    boolean later = ahead.stream()
                            .anyMatch(o -> o.key() == r.key() && o.offset() > r.offset());
                    if (later || r.tomb() && time - r.time() >= grace) {
                        went++;
                    } else {
                        stay.add(r);
                    }
                }
                p.segs.get(k).recs = stay;
            }
            int k = 0;
            while (k + 2 < p.segs.size()) {
                Seg a = p.segs.get(k), b = p.segs.get(k + 1);
                if (a.sizes() + b.sizes() <= 20 && a.recs.size() + b.recs.size() <= 8) {
                    a.recs.addAll(b.recs);
                    p.segs.remove(k + 1);
                } else {
                    k++;
                }
            }
            return went;
        }

        int retain(int log) {
            Partition p = logs.get(log);
            int went = 0;
            while (p.segs.size() > 1) {
                Seg s = p.segs.get(0);
                int newest = s.recs.stream().mapToInt(Rec::time).max().orElse(0);
                if (!(p.sizes() > keep || s.recs.isEmpty() || newest < time - age)) {
                    break;
                }
                went += s.recs.size();
                p.segs.remove(0);
            }
            return went;
        }

        int poll(int member) {
            for (int log = 0; log < 4; log++) {
                if (owner[log] == member) {
                    for (Rec r : logs.get(log).all()) {
                        if (r.offset() >= done[log]) {
                            done[log] = r.offset() + 1;
                            reads++;
                            return 1000 * log + r.offset();
                        }
                    }
                }
            }
            return -5;
        }

        int logsOf(int member) {
            int n = 0;
            for (int o : owner) {
                n += o == member ? 1 : 0;
            }
            return n;
        }

        int shareOut() {
            int[] ahead = owner.clone();
            List<Integer> members = new ArrayList<>();
            for (int m = 0; m < 4; m++) {
                if (in[m]) {
                    members.add(m);
                }
            }
            for (int log = 0; log < 4; log++) {
                if (!members.contains(owner[log])) {
                    owner[log] = -5;
                }
            }
            if (!members.isEmpty()) {
                int q = 4 / members.size(), m = 4 - q * members.size();
                for (int who : members) {
                    if (logsOf(who) > q) {
                        int may = q + (m > 0 ? 1 : 0);
                        m--;
                        for (int log = 3; log >= 0; log--) {
                            if (owner[log] == who && logsOf(who) > may) {
                                owner[log] = -5;
                            }
                        }
                    }
                }
                for (int log = 0; log < 4; log++) {
                    if (owner[log] == -5) {
                        members.sort(Comparator.<Integer>comparingInt(this::logsOf)
                                .thenComparingInt(x -> x));
                        owner[log] = members.get(0);
                    }
                }
            }
            int moves = 0;
            for (int log = 0; log < 4; log++) {
                moves += owner[log] != ahead[log] ? 1 : 0;
            }
            return moves;
        }

        void follow() {
            for (int[] row : plan) {
                if (row[0] == 0) {
                    compact(row[1]);
                } else if (row[0] == 1) {
                    retain(row[1]);
                } else if (row[0] == 2) {
                    if (in[row[1]]) {
                        poll(row[1]);
                    }
                } else {
                    time += row[1];
                }
            }
        }
    }

    private World now = new World();
    private World taken = null;
    private final StringBuilder text = new StringBuilder();
    private List<Rec> row = new ArrayList<>();
    private final Object[] tapes = new Object[6];

    public Model() {
        for (int log = 0; log < 4; log++) {
            Partition p = new Partition();
            p.begin();
            now.logs.add(p);
        }
    }

    private static boolean in(int n, int from, int to) {
        return n >= from && n <= to;
    }

    private int comes(int log, int key, boolean tomb, float value, int size) {
        if (!in(log, 0, 3) || !in(key, 0, 25)) {
            return NONE;
        }
        if (!in(size, 1, 9)) {
            return BAD;
        }
        Partition p = now.logs.get(log);
        if (p.came == 200) {
            return FULL;
        }
        Seg s = p.active();
        s.recs.add(new Rec(p.came, key, now.time, size, tomb, value));
        p.came++;
        if (s.recs.size() == 4 || s.sizes() >= 20) {
            p.begin();
        }
        return p.came - 1;
    }

    public int put(int log, int key, int num, int den, int size) {
        return comes(log, key, false, (float) num / (float) den, size);
    }

    public int tomb(int log, int key, int size) {
        return comes(log, key, true, 0, size);
    }

    public int tick(int n) {
        if (!in(n, 0, 99)) {
            return BAD;
        }
        return now.time + n > 9999 ? STATE : (now.time += n);
    }

    public int set(int what, int n) {
        if (!in(what, 0, 2)) {
            return NONE;
        }
        if (!in(n, 0, what == 0 ? 99 : 999)) {
            return BAD;
        }
        int was = told(what + 1);
        if (what == 0) {
            now.grace = n;
        } else if (what == 1) {
            now.keep = n;
        } else {
            now.age = n;
        }
        return was;
    }

    public int compact(int log) {
        return in(log, 0, 3) ? now.compact(log) : NONE;
    }

    public int retain(int log) {
        return in(log, 0, 3) ? now.retain(log) : NONE;
    }

    public int feed(int sign) {
        if (!in(sign, 0, 127)) {
            return BAD;
        }
        if (text.length() == 100) {
            return FULL;
        }
        text.append((char) sign);
        return text.length();
    }

    public int read() {
        String s = text.toString();
        text.setLength(0);
        for (int i = 0; i < s.length(); i++) {
            Matcher m = TEXT.matcher(s.substring(0, i + 1));
            if (!m.matches() && !m.hitEnd()) {
                return -10 - i;
            }
        }
        if (!TEXT.matcher(s).matches()) {
            return -10 - s.length();
        }
        int came = 0;
        for (String clause : s.split(";")) {
            int log = clause.charAt(0) - '0', key = clause.charAt(1) - 'a';
            String[] parts = clause.substring(3).split("/");
            int got = clause.charAt(2) == '-' ? tomb(log, key, 1)
                    : put(log, key, Integer.parseInt(parts[0]),
                            parts.length > 1 ? Integer.parseInt(parts[1]) : 1, 1);
            came += got >= 0 ? 1 : 0;
        }
        return came;
    }

    public int of(int log, int what) {
        if (!in(log, 0, 3) || !in(what, 0, 10)) {
            return NONE;
        }
        Partition p = now.logs.get(log);
        List<Rec> all = p.all();
        int start = p.segs.get(0).base;
        int[] answers = {all.size(), start, p.came, p.segs.size(), p.sizes(),
            p.came - start - all.size(), p.map(999).size(), now.owner[log], now.done[log],
            all.isEmpty() ? -5 : all.get(0).offset(),
            all.isEmpty() ? -5 : all.get(all.size() - 1).offset()};
        return answers[what];
    }

    public long record(int log, int offset, int what) {
        if (!in(log, 0, 3) || !in(what, 0, 5)) {
            return NO;
        }
        Partition p = now.logs.get(log);
        for (int k = 0; k < p.segs.size(); k++) {
            for (Rec r : p.segs.get(k).recs) {
                if (r.offset() == offset) {
                    long[] answers = {r.key(), r.time(), r.size(), r.tomb() ? 1 : 0,
                        r.tomb() ? NO : Float.floatToIntBits(r.value()), k};
                    return answers[what];
                }
            }
        }
        return NO;
    }

    public int segment(int log, int k, int what) {
        if (!in(log, 0, 3) || !in(what, 0, 3) || !in(k, 0, now.logs.get(log).segs.size() - 1)) {
            return NONE;
        }
        Partition p = now.logs.get(log);
        Seg s = p.segs.get(k);
        return new int[] {s.base, s.recs.size(), s.sizes(), s == p.active() ? 0 : 1}[what];
    }

    public long value(int log, int key) {
        return key == -1 ? NO : replay(log, Integer.MAX_VALUE, key);
    }

    public long map(int log, int what) {
        if (!in(log, 0, 3) || !in(what, 0, 4)) {
            return NO;
        }
        List<Float> values = new ArrayList<>(now.logs.get(log).map(999).values());
        if (values.isEmpty() && what > 1) {
            return NO;
        }
        float sum = 0.0f;
        double wide = 0.0;
        for (float v : values) {
            sum += v;
            wide += v;
        }
        List<Float> sorted = new ArrayList<>(values);
        sorted.sort(Float::compare);
        return switch (what) {
            case 0 -> values.size();
            case 1 -> Float.floatToIntBits(sum);
            case 2 -> Float.floatToIntBits(sorted.get(0));
            case 3 -> Float.floatToIntBits(sorted.get(sorted.size() - 1));
            default -> Double.doubleToLongBits(wide / values.size());
        };
    }

    public long replay(int log, int offset, int key) {
        if (!in(log, 0, 3) || !in(key, -1, 25) || offset < 0) {
            return NO;
        }
        TreeMap<Integer, Float> map = now.logs.get(log).map(offset);
        if (key == -1) {
            return map.size();
        }
        return map.containsKey(key) ? Float.floatToIntBits(map.get(key)) : NO;
    }

    public int near(int log, int offset, int how) {
        if (!in(log, 0, 3) || !in(how, 0, 1)) {
            return NONE;
        }
        int best = -5;
        for (Rec r : now.logs.get(log).all()) {
            if (how == 0 && r.offset() <= offset || how == 1 && best == -5 && r.offset() >= offset) {
                best = r.offset();
            }
        }
        return best;
    }

    public int oldest(int log, int k) {
        if (!in(log, 0, 3) || k < 0) {
            return NONE;
        }
        List<Rec> all = now.logs.get(log).all();
        all.sort(Comparator.comparingInt(Rec::time).thenComparingInt(r -> -r.size())
                .thenComparingInt(Rec::offset));
        return k < all.size() ? all.get(k).offset() : -5;
    }

    public int would(int log, int what) {
        if (!in(log, 0, 3) || !in(what, 0, 1)) {
            return NONE;
        }
        return what == 0 ? now.copy().compact(log) : now.copy().retain(log);
    }

    private World retainedBy(int log, int keep) {
        World w = now.copy();
        w.keep = keep;
        w.retain(log);
        return w;
    }

    public int need(int log, int n) {
        if (!in(log, 0, 3)) {
            return NONE;
        }
        if (!in(n, 0, 200)) {
            return BAD;
        }
        for (int keep = 0; keep <= 200; keep++) {
            if (retainedBy(log, keep).logs.get(log).all().size() >= n) {
                return keep;
            }
        }
        return -5;
    }

    public int join(int member) {
        if (!in(member, 0, 3)) {
            return NONE;
        }
        if (now.in[member]) {
            return STATE;
        }
        now.in[member] = true;
        return now.shareOut();
    }

    public int leave(int member) {
        if (!in(member, 0, 3)) {
            return NONE;
        }
        if (!now.in[member]) {
            return STATE;
        }
        now.in[member] = false;
        return now.shareOut();
    }

    public int poll(int member) {
        if (!in(member, 0, 3)) {
            return NONE;
        }
        return now.in[member] ? now.poll(member) : STATE;
    }

    public int seek(int log, int n) {
        if (!in(log, 0, 3)) {
            return NONE;
        }
        if (!in(n, 0, now.logs.get(log).came)) {
            return BAD;
        }
        int was = now.done[log];
        now.done[log] = n;
        return was;
    }

    public int member(int member, int what) {
        if (!in(member, 0, 3) || !in(what, 0, 2)) {
            return NONE;
        }
        int bits = 0, lag = 0;
        for (int log = 0; log < 4; log++) {
            if (now.owner[log] == member) {
                bits += 1 << log;
                int done = now.done[log];
                lag += (int) now.logs.get(log).all().stream().filter(r -> r.offset() >= done).count();
            }
        }
        return new int[] {now.in[member] ? 1 : 0, bits, lag}[what];
    }

    public int told(int what) {
        int bits = 0;
        for (int m = 0; m < 4; m++) {
            bits += now.in[m] ? 1 << m : 0;
        }
        int[] answers = {now.time, now.grace, now.keep, now.age, now.reads, bits};
        return in(what, 0, 5) ? answers[what] : NONE;
    }

    public long odds(int log, int part) {
        if (!in(log, 0, 3) || !in(part, 0, 1)) {
            return NO;
        }
        int good = 0;
        for (int keep = 0; keep <= 95; keep += 5) {
            good += retainedBy(log, keep).records() == now.records() ? 1 : 0;
        }
        int by = java.math.BigInteger.valueOf(good).gcd(java.math.BigInteger.valueOf(20)).intValue();
        return (part == 0 ? good : 20) / by;
    }

    public int plan(int what, int n) {
        if (what == -1) {
            now.plan.clear();
            return 0;
        }
        if (!in(what, 0, 3) || what != 3 && !in(n, 0, 3)) {
            return NONE;
        }
        if (!in(n, 0, 99)) {
            return BAD;
        }
        if (now.plan.size() == 10) {
            return FULL;
        }
        now.plan.add(new int[] {what, n});
        return now.plan.size();
    }

    public int ends(int what) {
        if (!in(what, 0, 1)) {
            return NONE;
        }
        World w = now.copy();
        w.follow();
        return what == 0 ? w.records() : w.reads;
    }

    public int book(int log, int start) {
        if (log == -1) {
            now.book.clear();
            return 0;
        }
        if (!in(log, 0, 3)) {
            return NONE;
        }
        if (!in(start, 0, 200)) {
            return BAD;
        }
        if (now.book.size() == 8) {
            return FULL;
        }
        now.book.add(new int[] {log, start});
        return now.book.size();
    }

    public int looked() {
        for (int i = 0; i < now.book.size(); i++) {
            if (now.logs.get(now.book.get(i)[0]).segs.get(0).base != now.book.get(i)[1]) {
                return i;
            }
        }
        return -5;
    }

    public int keep(int log, int sort, int n) {
        if (!in(log, 0, 3)) {
            return NONE;
        }
        if (!in(sort, 0, 1) || n > 60) {
            return BAD;
        }
        if (n < 0) {
            return -14;
        }
        row = new ArrayList<>();
        for (Rec r : now.logs.get(log).all()) {
            if (row.size() == n) {
                return -13;
            }
            if (sort == 1 && r.tomb()) {
                return -16;
            }
            row.add(r);
        }
        return row.size();
    }

    public long kept(int k, int what) {
        if (!in(k, 0, row.size() - 1) || !in(what, 0, 3)) {
            return NO;
        }
        Rec r = row.get(k);
        return new long[] {r.offset(), r.key(), r.tomb() ? 1 : 0,
            r.tomb() ? NO : Float.floatToIntBits(r.value())}[what];
    }

    public int judge(int log, int tape, int i) {
        if (!in(log, 0, 3) || !in(tape, 0, 5)) {
            return NONE;
        }
        Object t = tapes[tape];
        if (t != null && !(t instanceof short[])) {
            return -12;
        }
        List<Rec> all = now.logs.get(log).all();
        for (int k = 0; k < all.size(); k++) {
            if (t == null || i < 0 || (long) i + k >= ((short[]) t).length) {
                return 100 + k;
            }
            if (((short[]) t)[i + k] != all.get(k).offset()) {
                return k;
            }
        }
        return -5;
    }

    public int image() {
        taken = now.copy();
        return now.records();
    }

    public int undo() {
        if (taken == null) {
            return STATE;
        }
        now = taken.copy();
        return now.records();
    }

    public int count(int what) {
        int[] answers = {now.records(), Integer.bitCount(told(5)), now.plan.size(),
            now.book.size(), text.length()};
        return in(what, 0, 4) ? answers[what] : BAD;
    }

    public int tape(int tape, int sort, int n) {
        if (!in(tape, 0, 5)) {
            return NONE;
        }
        if (!in(sort, -1, 4) || sort >= 0 && n > 60) {
            return BAD;
        }
        if (sort >= 0 && n < 0) {
            return -14;
        }
        tapes[tape] = switch (sort) {
            case 0 -> new byte[n];
            case 1 -> new short[n];
            case 2 -> new int[n];
            case 3 -> new long[n];
            case 4 -> new boolean[n];
            default -> null;
        };
        return 1;
    }

    public int item(int tape, int i, long v) {
        if (!in(tape, 0, 5)) {
            return NONE;
        }
        Object t = tapes[tape];
        if (t == null) {
            return -11;
        }
        if (!in(i, 0, java.lang.reflect.Array.getLength(t) - 1)) {
            return -13;
        }
        if (t instanceof byte[] b) {
            b[i] = (byte) v;
        } else if (t instanceof short[] s) {
            s[i] = (short) v;
        } else if (t instanceof int[] n) {
            n[i] = (int) v;
        } else if (t instanceof long[] l) {
            l[i] = v;
        } else if (t instanceof boolean[] z) {
            z[i] = v != 0;
        }
        return 1;
    }

    public long peek(int tape, int i) {
        if (!in(tape, 0, 5) || tapes[tape] == null
                || !in(i, 0, java.lang.reflect.Array.getLength(tapes[tape]) - 1)) {
            return NO;
        }
        Object t = tapes[tape];
        if (t instanceof boolean[] z) {
            return z[i] ? 1 : 0;
        }
        return java.lang.reflect.Array.getLong(t, i);
    }

    public int shift(int tape, int i, int other, int j, int n) {
        if (!in(tape, 0, 5) || !in(other, 0, 5)) {
            return NONE;
        }
        Object a = tapes[tape], b = tapes[other];
        if (a == null || b == null) {
            return -11;
        }
        if (a.getClass() != b.getClass()) {
            return -12;
        }
        try {
            System.arraycopy(a, i, b, j, n);
        } catch (IndexOutOfBoundsException e) {
            return -13;
        }
        return n;
    }
}
