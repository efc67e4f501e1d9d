import java.util.ArrayDeque;
import java.util.ArrayList;
import java.util.Arrays;
import java.util.Comparator;
import java.util.HashSet;
import java.util.List;
import java.util.Random;
import java.util.Set;
import java.util.TreeMap;

/**
 * The document's first lines: each thing that they name, held as a property of many states. What is
 * due is worked out from what the face tells of the records, not the way the class or Model does it.
 */
public final class OverviewTest {
    private static final int STATES = 150;
    /** So few that all of them can be asked for within an object's 512 calls. */
    private static final int MOST_RECORDS = 45;
    private static final long NO = Scene.NO;
    private static final Sentences S = new Sentences();

    private record Row(int offset, int key, int time, int size, boolean tomb, long bits, int segment) { }

    public static void main(String[] args) {
        S.part("Log store with compaction", "An object is used");
        logs();
        eachState("compaction that leaves the last of each key,", OverviewTest::compaction);
        eachState("tombs kept so long,", OverviewTest::tombsKept);
        eachState("segments that go by size and by age,", OverviewTest::segmentsGo);
        eachState("holes between offsets;", OverviewTest::holes);
        eachState("what a log comes to when it is replayed;", OverviewTest::replayed);
        eachState("members that read partitions,", OverviewTest::partitions);
        fewMoves();
        eachState("offsets that never fall;", OverviewTest::offsets);
        eachState("sums, least, greatest, means to the bit,", OverviewTest::sums);
        eachState("the oldest and the largest,", OverviewTest::oldest);
        eachState("what lies at, before, behind an offset,", OverviewTest::near);
        eachState("rows that take no tombs,", OverviewTest::noTombs);
        eachState("texts,", OverviewTest::texts);
        eachState("odds,", OverviewTest::odds);
        eachState("plans,", OverviewTest::plans);
        eachState("books,", OverviewTest::books);
        eachState("offsets told by hand looked at,", OverviewTest::judged);
        eachState("an image.", OverviewTest::image);
        numbers();
        S.end("OverviewTest");
    }

    interface Property {
        void holds(Sentences.Start start, Random r);
    }

    /** Asking takes calls, too: a property makes the state anew where it needs more of them. */
    private static void eachState(String words, Property property) {
        S.says(words);
        for (int i = 0; i < STATES; i++) {
            int seed = i;
            property.holds(() -> state(new Random(seed)), new Random(-1 - seed));
        }
    }

    private static KeyedLogs state(Random r) {
        KeyedLogs x = new KeyedLogs();
        int keys = 1 + r.nextInt(26);
        int tombs = r.nextInt(4);
        int largest = 1 + r.nextInt(9);
        for (int left = r.nextInt(MOST_RECORDS + 1); left > 0; left--) {
            someRecord(x, r, r.nextInt(keys), 1 + r.nextInt(largest), tombs);
            if (r.nextInt(6) == 0) {
                x.tick(r.nextInt(20));
            }
            if (r.nextInt(20) == 0) {
                x.compact(0);
            }
            if (r.nextInt(40) == 0) {
                x.retain(0);
            }
        }
        return Scene.settings(x, r.nextInt(40), r.nextInt(120), r.nextInt(120));
    }

    private static void someRecord(KeyedLogs x, Random r, int key, int size, int tombsOf8) {
        if (r.nextInt(8) < tombsOf8) {
            x.tomb(0, key, size);
        } else {
            x.put(0, key, r.nextInt(19) - 9, r.nextInt(20) == 0 ? 0 : r.nextInt(13) - 6, size);
        }
    }

    // ---- what a log is, by what the face tells of it

    private static List<Row> rows(KeyedLogs x) {
        List<Row> rows = new ArrayList<>();
        int end = x.of(0, 2);
        for (int o = x.of(0, 1); o < end; o++) {
            long key = x.record(0, o, 0);
            if (key != NO) {
                rows.add(new Row(o, (int) key, (int) x.record(0, o, 1), (int) x.record(0, o, 2),
                        x.record(0, o, 3) == 1, x.record(0, o, 4), (int) x.record(0, o, 5)));
            }
        }
        return rows;
    }

    private static List<Integer> offsetsOf(List<Row> rows) {
        return rows.stream().map(Row::offset).toList();
    }

    private static boolean isLast(Row row, List<Row> rows) {
        return rows.stream().noneMatch(other -> other.key() == row.key() && other.offset() > row.offset());
    }

    private static TreeMap<Integer, Long> mapOf(List<Row> rows) {
        TreeMap<Integer, Long> map = new TreeMap<>();
        for (Row row : rows) {
            if (row.tomb()) {
                map.remove(row.key());
            } else {
                map.put(row.key(), row.bits());
            }
        }
        return map;
    }

    private static int sizes(List<Row> rows) {
        return rows.stream().mapToInt(Row::size).sum();
    }

    // ---- logs

    private static void logs() {
        S.says("Log store with compaction: four logs of keyed records in segments, tombs,");
        for (int log = -1; log <= 4; log++) {
            boolean there = log >= 0 && log < 4;
            KeyedLogs x = new KeyedLogs();
            for (int i = 0; i < 9; i++) {
                long put = i % 2 == 0 ? x.put(log, i, i, 1, 1) : x.tomb(log, i, 1);
                S.due("record " + i + " of log " + log, put, there ? i : Scene.NONE);
            }
            S.due("segments of log " + log, x.of(log, 3), there ? 3 : Scene.NONE);
        }
    }

    private static void compaction(Sentences.Start start, Random r) {
        List<Row> ahead = rows(start.made());
        KeyedLogs x = start.made();
        int active = x.of(0, 3) - 1;
        int went = x.compact(0);
        List<Row> behind = rows(x);
        List<Integer> left = offsetsOf(behind);
        S.due("how many went", went, ahead.size() - behind.size());
        S.that("none is new", offsetsOf(ahead).containsAll(left));
        S.that("the map stays", mapOf(ahead).equals(mapOf(behind)));
        for (Row row : ahead) {
            boolean stays = row.segment() == active || isLast(row, ahead);
            if (!row.tomb() || row.segment() == active || !stays) {
                S.that("left of " + row, left.contains(row.offset()) == stays);
            }
        }
    }

    private static void tombsKept(Sentences.Start start, Random r) {
        List<Row> ahead = rows(start.made());
        KeyedLogs x = start.made();
        int active = x.of(0, 3) - 1;
        int grace = r.nextInt(30);
        x.set(0, grace);
        int time = x.told(0);
        x.compact(0);
        List<Integer> left = offsetsOf(rows(x));
        for (Row row : ahead) {
            if (row.tomb() && row.segment() != active && isLast(row, ahead)) {
                S.that("so long by " + grace + " at " + time + " " + row,
                        left.contains(row.offset()) == time - row.time() < grace);
            }
        }
    }

    private static void segmentsGo(Sentences.Start start, Random r) {
        List<Row> ahead = rows(start.made());
        KeyedLogs x = start.made();
        int segments = x.of(0, 3), keep = x.told(2), limit = x.told(0) - x.told(3);
        int went = x.retain(0);
        int gone = segments - x.of(0, 3);
        S.due("it needs no second time", x.would(0, 1), 0);
        S.that("the rest is as it was", offsetsOf(rows(x)).equals(offsetsOf(ahead.subList(went, ahead.size()))));
        for (int k = 0; k <= gone && k < segments; k++) {
            int number = k;
            List<Row> in = ahead.stream().filter(row -> row.segment() == number).toList();
            List<Row> on = ahead.stream().filter(row -> row.segment() >= number).toList();
            boolean goes = k < segments - 1
                    && (sizes(on) > keep || in.stream().allMatch(row -> row.time() < limit));
            S.that("segment " + k + " of " + segments, goes == k < gone);
        }
    }

    private static void holes(Sentences.Start start, Random r) {
        KeyedLogs x = start.made();
        int records = rows(x).size();
        int base = -1, inAll = 0;
        S.due("holes", x.of(0, 5), x.of(0, 2) - x.of(0, 1) - records);
        for (int k = 0; k < x.of(0, 3); k++) {
            S.that("bases rise", x.segment(0, k, 0) > base);
            base = x.segment(0, k, 0);
            inAll += x.segment(0, k, 1);
        }
        S.due("records of all segments", inAll, records);
    }

    private static void replayed(Sentences.Start start, Random r) {
        List<Row> all = rows(start.made());
        KeyedLogs x = start.made();
        for (int o = 0; o <= x.of(0, 2) + 1; o++) {
            int upTo = o;
            TreeMap<Integer, Long> map = mapOf(all.stream().filter(row -> row.offset() < upTo).toList());
            int key = r.nextInt(26);
            S.due("keys up to " + o, x.replay(0, o, -1), map.size());
            S.due("key " + key + " up to " + o, x.replay(0, o, key), map.getOrDefault(key, NO));
        }
    }

    // ---- members

    private static void partitions(Sentences.Start start, Random r) {
        KeyedLogs x = start.made();
        for (int i = 0; i < 12; i++) {
            x.put(1 + r.nextInt(3), i, i, 1, 1);
        }
        int members = 1 + r.nextInt(15);
        for (int m = 0; m < 4; m++) {
            if ((members >> m & 1) != 0) {
                x.join(m);
            }
        }
        int left = x.count(0);
        int[] done = new int[4];
        for (int m = 0; m < 4; m++) {
            int mine = x.member(m, 1);
            for (int lag = x.member(m, 2); lag > 0; lag--, left--) {
                int polled = x.poll(m);
                int log = polled / 1000, offset = polled % 1000;
                S.that("member " + m + " reads its own", (mine >> log & 1) != 0);
                S.that("one by one", offset >= done[log] && x.near(log, done[log], 1) == offset);
                done[log] = offset + 1;
            }
            S.due("read to the end", x.poll(m), (members >> m & 1) != 0 ? -5 : Scene.STATE);
        }
        S.due("all were read", left, 0);
        S.due("as often as there are records", x.told(4), x.count(0));
    }

    /** All that comings and goings can lead to, and from there each coming and going. */
    private static void fewMoves() {
        S.says("shared out anew with as few moves as can be,");
        Set<String> seen = new HashSet<>(Set.of("----"));
        ArrayDeque<int[]> paths = new ArrayDeque<>();
        paths.add(new int[0]);
        while (!paths.isEmpty()) {
            int[] path = paths.poll();
            for (int m = 0; m < 4; m++) {
                KeyedLogs x = walked(path);
                String ahead = Scene.owners(x);
                int moves = turned(x, m);
                S.due(ahead + " and " + m, moves, fewestMoves(ahead, x.told(5)));
                S.that("shared evenly", isEven(Scene.owners(x), x.told(5)));
                if (seen.add(Scene.owners(x) + x.told(5))) {
                    int[] longer = Arrays.copyOf(path, path.length + 1);
                    longer[path.length] = m;
                    paths.add(longer);
                }
            }
        }
        S.that("many ways to share: " + seen.size(), seen.size() > 50);
    }

    private static KeyedLogs walked(int[] path) {
        KeyedLogs x = new KeyedLogs();
        for (int m : path) {
            turned(x, m);
        }
        return x;
    }

    private static int turned(KeyedLogs x, int m) {
        return x.member(m, 0) == 1 ? x.leave(m) : x.join(m);
    }

    private static int fewestMoves(String ahead, int in) {
        int fewest = 4;
        for (int n = 0; n < 256 && in != 0; n++) {
            StringBuilder owners = new StringBuilder();
            int moves = 0;
            for (int log = 0; log < 4; log++) {
                owners.append(n >> 2 * log & 3);
                moves += owners.charAt(log) == ahead.charAt(log) ? 0 : 1;
            }
            fewest = isEven(owners.toString(), in) ? Math.min(fewest, moves) : fewest;
        }
        return fewest;
    }

    private static boolean isEven(String owners, int in) {
        if (in == 0) {
            return owners.equals("----");
        }
        int least = 4, most = 0;
        for (int m = 0; m < 4; m++) {
            char who = (char) ('0' + m);
            int many = (int) owners.chars().filter(c -> c == who).count();
            if ((in >> m & 1) == 0 && many > 0) {
                return false;
            }
            least = (in >> m & 1) != 0 ? Math.min(least, many) : least;
            most = Math.max(most, many);
        }
        return owners.indexOf('-') < 0 && most - least <= 1;
    }

    private static void offsets(Sentences.Start start, Random r) {
        KeyedLogs x = start.made();
        for (int i = 0; i < 60; i++) {
            int ahead = x.of(0, 2), first = x.of(0, 1);
            if (r.nextInt(3) == 0) {
                S.that("some go", (r.nextBoolean() ? x.compact(0) : x.retain(0)) >= 0);
                S.due("the end stays", x.of(0, 2), ahead);
            } else {
                S.due("the next offset", x.put(0, r.nextInt(26), i, 1, 5), ahead);
                S.due("the end is behind it", x.of(0, 2), ahead + 1);
            }
            S.that("the start never falls", x.of(0, 1) >= first);
        }
    }

    // ---- what is asked

    private static void sums(Sentences.Start start, Random r) {
        TreeMap<Integer, Long> map = mapOf(rows(start.made()));
        KeyedLogs x = start.made();
        float sum = 0.0f;
        double wide = 0.0;
        List<Float> sorted = new ArrayList<>();
        for (long bits : map.values()) {
            float value = Float.intBitsToFloat((int) bits);
            sum = sum + value;
            wide = wide + value;
            sorted.add(value);
        }
        sorted.sort(Float::compare);
        int many = sorted.size();
        S.due("how many", x.map(0, 0), many);
        S.due("sum", x.map(0, 1), Scene.bits(sum));
        S.due("least", x.map(0, 2), many == 0 ? NO : Scene.bits(sorted.get(0)));
        S.due("greatest", x.map(0, 3), many == 0 ? NO : Scene.bits(sorted.get(many - 1)));
        S.due("mean", x.map(0, 4), many == 0 ? NO : Scene.wide(wide / many));
    }

    private static void oldest(Sentences.Start start, Random r) {
        List<Row> sorted = new ArrayList<>(rows(start.made()));
        sorted.sort(Comparator.comparingInt(Row::time).thenComparing(Row::size, Comparator.reverseOrder())
                .thenComparing(Row::offset));
        KeyedLogs x = start.made();
        for (int k = 0; k < sorted.size(); k++) {
            S.due("number " + k, x.oldest(0, k), sorted.get(k).offset());
        }
        S.due("none more", x.oldest(0, sorted.size()), -5);
    }

    private static void near(Sentences.Start start, Random r) {
        List<Integer> offsets = offsetsOf(rows(start.made()));
        KeyedLogs x = start.made();
        for (int o = -1; o <= x.of(0, 2) + 1; o++) {
            int here = o;
            S.due("at or before " + o, x.near(0, o, 0),
                    offsets.stream().filter(n -> n <= here).reduce(-5, (a, b) -> b));
            S.due("at or behind " + o, x.near(0, o, 1),
                    offsets.stream().filter(n -> n >= here).findFirst().orElse(-5));
        }
    }

    private static void noTombs(Sentences.Start start, Random r) {
        List<Row> all = rows(start.made());
        long values = all.stream().takeWhile(row -> !row.tomb()).count();
        KeyedLogs x = start.made();
        S.due("put there", x.keep(0, 1, 60), values == all.size() ? values : Scene.STORED);
        for (int k = 0; k < values; k++) {
            S.due("value " + k, x.kept(k, 3), all.get(k).bits());
            S.due("no tomb " + k, x.kept(k, 2), 0);
        }
        S.due("none more", x.kept((int) values, 0), NO);
    }

    private static void texts(Sentences.Start start, Random r) {
        KeyedLogs read = start.made(), put = start.made();
        StringBuilder text = new StringBuilder();
        int many = 1 + r.nextInt(9);
        for (int i = 0; i < many; i++) {
            char key = (char) ('a' + r.nextInt(26));
            int num = r.nextInt(19999) - 9999, den = r.nextInt(3) == 0 ? 1 : r.nextInt(100);
            text.append(i == 0 ? "" : ";").append(0).append(key);
            if (r.nextInt(4) == 0) {
                text.append('-');
                put.tomb(0, key - 'a', 1);
            } else {
                text.append('=').append(num).append(den == 1 ? "" : "/" + den);
                put.put(0, key - 'a', num, den, 1);
            }
        }
        S.due(text.toString(), Scene.say(read, text.toString()).read(), many);
        S.that("they are the same records", lately(read, many).equals(lately(put, many)));
    }

    private static List<Long> lately(KeyedLogs x, int many) {
        List<Long> told = new ArrayList<>();
        for (int o = x.of(0, 2) - many; o < x.of(0, 2); o++) {
            for (int what = 0; what < 6; what++) {
                told.add(x.record(0, o, what));
            }
        }
        return told;
    }

    private static void odds(Sentences.Start start, Random r) {
        KeyedLogs x = start.made();
        long above = x.odds(0, 0), below = x.odds(0, 1);
        int harmless = 0;
        for (int keep = 0; keep < 100; keep += 5) {
            x.set(1, keep);
            harmless += x.would(0, 1) == 0 ? 1 : 0;
        }
        S.due(above + "/" + below + " is " + harmless + "/20", above * 20, below * harmless);
        for (int d = 2; d <= 20; d++) {
            S.that("lowest terms", above % d != 0 || below % d != 0);
        }
    }

    private static void plans(Sentences.Start start, Random r) {
        KeyedLogs told = start.made(), acted = start.made();
        told.join(1);
        acted.join(1);
        for (int i = 0; i < 10; i++) {
            int what = r.nextInt(4);
            int n = what == 3 ? r.nextInt(30) : what == 2 ? r.nextInt(4) : r.nextInt(2);
            S.due("row " + i, told.plan(what, n), i + 1);
            act(acted, what, n);
        }
        S.due("records", told.ends(0), acted.count(0));
        S.due("reads", told.ends(1), acted.told(4));
    }

    private static int act(KeyedLogs x, int what, int n) {
        switch (what) {
            case 0:
                return x.compact(n);
            case 1:
                return x.retain(n);
            case 2:
                return x.poll(n);
            default:
                return x.tick(n);
        }
    }

    private static void books(Sentences.Start start, Random r) {
        KeyedLogs x = start.made();
        int rows = r.nextInt(9), other = r.nextInt(9);
        for (int i = 0; i < rows; i++) {
            int log = r.nextInt(4);
            x.book(log, x.of(log, 1) + (i < other ? 0 : 1));
        }
        S.due("rows " + rows + ", otherwise " + other, x.looked(), other < rows ? other : -5);
    }

    private static void judged(Sentences.Start start, Random r) {
        List<Integer> offsets = offsetsOf(rows(start.made()));
        int many = offsets.size(), place = r.nextInt(10);
        KeyedLogs x = start.made();
        x.tape(0, 1, place + many);
        for (int k = 0; k < many; k++) {
            x.item(0, place + k, offsets.get(k));
        }
        S.due("as told", x.judge(0, 0, place), -5);
        if (many > 0) {
            int k = r.nextInt(many);
            x.item(0, place + k, 1 + offsets.get(k));
            S.due("otherwise at " + k, x.judge(0, 0, place), k);
            x.item(0, place + k, offsets.get(k));
            x.tape(1, 1, k);
            S.due("shorter", x.shift(0, place, 1, 0, k), k);
            S.due("ends at " + k, x.judge(0, 1, 0), 100 + k);
        }
    }

    private static void image(Sentences.Start start, Random r) {
        List<Row> ahead = rows(start.made());
        KeyedLogs x = start.made();
        S.due("taken", x.image(), ahead.size());
        for (int i = 0; i < 20; i++) {
            x.put(0, i, i, 1, 9);
        }
        x.tick(99);
        x.compact(0);
        x.retain(0);
        S.due("undone", x.undo(), ahead.size());
        S.that("all as it was", rows(x).equals(ahead));
    }

    private static void numbers() {
        S.says("==== 1 NUMBERS are told as num, den (ints):");
        int[] ints = {0, 1, -1, 2, 3, 7, -10, 16777215, 16777217, -33554435, 999999999, Scene.MAX,
            Scene.MAX - 64, Scene.MIN, Scene.MIN + 1};
        for (int num : ints) {
            KeyedLogs x = new KeyedLogs();
            for (int i = 0; i < ints.length; i++) {
                x.put(0, i, num, ints[i], 1);
                S.due(num + " by " + ints[i], x.value(0, i), Scene.bits((float) num / (float) ints[i]));
            }
        }
    }
}
