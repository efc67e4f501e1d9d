/** Each promise by its number: ordinary calls, the edges that the document names, wrong ones. */
public final class PromisesTest {
    private static final int NONE = -1, BAD = -2, STATE = -3, FULL = -4;
    private static final int NOTHING = -11, CAST = -12, PLACE = -13, SIZE = -14, STORED = -16;
    private static final long NO = Long.MIN_VALUE;
    private static final int[] WRONG = {-1, 4, Integer.MIN_VALUE, Integer.MAX_VALUE};
    private static final Check CHECK = new Check();

    public static void main(String[] args) {
        newObject();
        put();
        tomb();
        tick();
        set();
        compact();
        compactJoins();
        retain();
        feed();
        read();
        of();
        record();
        segment();
        value();
        map();
        mapOfOddValues();
        replay();
        near();
        oldest();
        would();
        need();
        join();
        leave();
        poll();
        seek();
        member();
        told();
        odds();
        plan();
        ends();
        book();
        looked();
        keep();
        kept();
        judge();
        imageAndUndo();
        fullLog();
        count();
        tape();
        item();
        peek();
        shift();
        CHECK.end("PromisesTest");
    }

    private static void due(String call, long got, long want) {
        CHECK.due(call, got, want);
    }

    private static long bits(float f) {
        return Float.floatToIntBits(f);
    }

    private static void say(KeyedLogs x, String text) {
        for (int i = 0; i < text.length(); i++) {
            x.feed(text.charAt(i));
        }
    }

    private static int reading(String text) {
        KeyedLogs x = new KeyedLogs();
        say(x, text);
        return x.read();
    }

    /** Log 0 with n values of keys 0, 1, .., each of that size. */
    private static KeyedLogs filled(int n, int size) {
        KeyedLogs x = new KeyedLogs();
        for (int i = 0; i < n; i++) {
            x.put(0, i % 26, i, 1, size);
        }
        return x;
    }

    private static void newObject() {
        KeyedLogs x = new KeyedLogs();
        int[] told = {0, 5, 100, 50, 0, 0};
        for (int what = 0; what < 6; what++) {
            due("1 told " + what, x.told(what), told[what]);
        }
        int[] of = {0, 0, 0, 1, 0, 0, 0, -5, 0, -5, -5};
        for (int log = 0; log < 4; log++) {
            for (int what = 0; what < 11; what++) {
                due("1 of " + what, x.of(log, what), of[what]);
            }
        }
        for (int what = 0; what < 5; what++) {
            due("1 count " + what, x.count(what), 0);
        }
        for (int tape = 0; tape < 6; tape++) {
            due("1 tape", x.item(tape, 0, 1), NOTHING);
        }
        due("1 undo", x.undo(), STATE);
        due("1 kept", x.kept(0, 0), NO);
        due("1 NONE", KeyedLogs.NONE, -1);
        due("1 BAD", KeyedLogs.BAD, -2);
        due("1 STATE", KeyedLogs.STATE, -3);
        due("1 FULL", KeyedLogs.FULL, -4);
        due("1 NO", KeyedLogs.NO, NO);
    }

    private static void put() {
        KeyedLogs x = new KeyedLogs();
        due("2 put", x.put(0, 0, 3, 2, 1), 0);
        due("2 put", x.put(0, 25, 3, 2, 9), 1);
        due("2 another log", x.put(3, 0, 3, 2, 1), 0);
        for (int wrong : WRONG) {
            due("2 log", x.put(wrong, 0, 1, 1, 0), NONE);
        }
        due("2 key", x.put(0, -1, 1, 1, 10), NONE);
        due("2 key", x.put(0, 26, 1, 1, 1), NONE);
        due("2 size", x.put(0, 0, 1, 1, 0), BAD);
        due("2 size", x.put(0, 0, 1, 1, 10), BAD);
        due("2 nothing came", x.of(0, 2), 2);
        int[][] numbers = {{1, 3}, {-7, 4}, {0, 5}, {0, -5}, {1, 0}, {-1, 0}, {0, 0}, {16777217, 1},
            {16777219, 1}, {Integer.MAX_VALUE, Integer.MIN_VALUE}, {Integer.MIN_VALUE, -1},
            {1, Integer.MIN_VALUE}, {Integer.MIN_VALUE, 0}, {Integer.MIN_VALUE, 7}, {33554433, 3}};
        KeyedLogs y = new KeyedLogs();
        for (int i = 0; i < numbers.length; i++) {
            due("2 put", y.put(1, 0, numbers[i][0], numbers[i][1], 1), i);
            due("2 value " + i, y.record(1, i, 4), bits((float) numbers[i][0] / (float) numbers[i][1]));
        }
        KeyedLogs z = filled(200, 1);
        due("2 200 came", z.of(0, 2), 200);
        due("2 full", z.put(0, 0, 1, 1, 1), FULL);
        due("2 bad ahead of full", z.put(0, 0, 1, 1, 0), BAD);
        z.set(1, 0);
        z.retain(0);
        due("2 full though gone", z.put(0, 0, 1, 1, 1), FULL);
        due("2 other log", z.put(1, 0, 1, 1, 1), 0);
    }

    private static void tomb() {
        KeyedLogs x = new KeyedLogs();
        due("3 tomb", x.tomb(2, 7, 9), 0);
        due("3 tomb", x.tomb(2, 7, 1), 1);
        due("3 is one", x.record(2, 1, 3), 1);
        for (int wrong : WRONG) {
            due("3 log", x.tomb(wrong, 0, 0), NONE);
        }
        due("3 key", x.tomb(0, -1, 0), NONE);
        due("3 key", x.tomb(0, 26, 1), NONE);
        due("3 size", x.tomb(0, 0, 0), BAD);
        due("3 size", x.tomb(0, 0, 10), BAD);
        KeyedLogs z = filled(199, 1);
        due("3 the last", z.tomb(0, 0, 1), 199);
        due("3 full", z.tomb(0, 0, 1), FULL);
        due("3 bad ahead of full", z.tomb(0, 0, 10), BAD);
    }

    private static void tick() {
        KeyedLogs x = new KeyedLogs();
        due("4 tick", x.tick(0), 0);
        due("4 tick", x.tick(99), 99);
        due("4 bad", x.tick(100), BAD);
        due("4 bad", x.tick(-1), BAD);
        due("4 bad", x.tick(Integer.MAX_VALUE), BAD);
        for (int i = 2; i <= 101; i++) {
            due("4 tick", x.tick(99), 99 * i);
        }
        due("4 above", x.tick(1), STATE);
        due("4 bad ahead of state", x.tick(100), BAD);
        due("4 none more", x.tick(0), 9999);
        due("4 stays", x.told(0), 9999);
    }

    private static void set() {
        KeyedLogs x = new KeyedLogs();
        due("5 grace", x.set(0, 99), 5);
        due("5 grace", x.set(0, 0), 99);
        due("5 keep", x.set(1, 999), 100);
        due("5 keep", x.set(1, 0), 999);
        due("5 age", x.set(2, 999), 50);
        due("5 age", x.set(2, 0), 999);
        due("5 bad", x.set(0, 100), BAD);
        due("5 bad", x.set(0, -1), BAD);
        due("5 bad", x.set(1, 1000), BAD);
        due("5 bad", x.set(1, -1), BAD);
        due("5 bad", x.set(2, 1000), BAD);
        due("5 bad", x.set(2, -1), BAD);
        due("5 none", x.set(3, 1000), NONE);
        due("5 none", x.set(-1, 0), NONE);
        due("5 grace stays", x.told(1), 0);
        due("5 keep stays", x.told(2), 0);
        due("5 age stays", x.told(3), 0);
    }

    private static void compact() {
        KeyedLogs x = new KeyedLogs();
        x.put(0, 0, 1, 1, 1);
        x.tomb(0, 0, 1);
        x.tomb(0, 1, 1);
        x.put(0, 2, 1, 1, 1);
        x.tick(4);
        // the active segment: its records stay, and count as later ones
        x.put(0, 2, 2, 1, 1);
        x.tomb(0, 3, 1);
        due("6 grace not over", x.compact(0), 2);
        due("6 first of key 0", x.record(0, 0, 0), NO);
        due("6 its tomb stays", x.record(0, 1, 3), 1);
        due("6 key 2", x.record(0, 3, 0), NO);
        due("6 active", x.record(0, 4, 0), 2);
        due("6 again", x.compact(0), 0);
        x.tick(1);
        due("6 grace over", x.compact(0), 2);
        due("6 active tomb", x.record(0, 5, 3), 1);
        due("6 start stays", x.of(0, 1), 0);
        due("6 holes", x.of(0, 5), 4);
        x.set(0, 0);
        due("6 active tomb stays", x.compact(0), 0);
        due("6 empty log", x.compact(1), 0);
        KeyedLogs late = new KeyedLogs();
        late.tick(20);
        late.tomb(0, 0, 1);
        for (int i = 1; i < 5; i++) {
            late.put(0, i, 1, 1, 1);
        }
        late.tick(4);
        due("6 from its own TIME on", late.compact(0), 0);
        late.tick(1);
        due("6 grace over", late.compact(0), 1);
        for (int wrong : WRONG) {
            due("6 none", x.compact(wrong), NONE);
        }
    }

    private static void compactJoins() {
        // 20 sizes and 8 records at most
        KeyedLogs x = filled(13, 2);
        due("6 nothing goes", x.compact(0), 0);
        due("6 joined", x.of(0, 3), 3);
        due("6 joined", x.segment(0, 0, 1), 8);
        due("6 joined sizes", x.segment(0, 0, 2), 16);
        due("6 base of the first", x.segment(0, 1, 0), 8);
        due("6 not with the active one", x.segment(0, 2, 1), 1);
        KeyedLogs y = new KeyedLogs();
        int[] sizes = {2, 2, 2, 4, 2, 2, 2, 4, 1, 1, 1, 1, 2, 2, 2, 2};
        for (int i = 0; i < sizes.length; i++) {
            y.put(0, i, 1, 1, sizes[i]);
        }
        y.compact(0);
        due("6 20 sizes fit", y.segment(0, 0, 2), 20);
        due("6 then the next two", y.segment(0, 1, 1), 8);
        due("6 segments", y.of(0, 3), 3);
        KeyedLogs z = new KeyedLogs();
        int[] more = {2, 2, 2, 4, 2, 2, 2, 5, 1, 1, 1, 1};
        for (int i = 0; i < more.length; i++) {
            z.put(0, i, 1, 1, more[i]);
        }
        z.compact(0);
        due("6 21 sizes don't", z.segment(0, 0, 1), 4);
        due("6 15 sizes do", z.segment(0, 1, 1), 8);
        KeyedLogs w = filled(4, 1);
        for (int i = 0; i < 12; i++) {
            w.put(0, i < 4 ? i : 4, 1, 1, 1);
        }
        due("6 went", w.compact(0), 11);
        due("6 three are one", w.of(0, 3), 2);
        due("6 five left", w.segment(0, 0, 1), 5);
        KeyedLogs v = filled(11, 1);
        for (int i = 0; i < 4; i++) {
            v.put(0, 8 + i, 1, 1, 1);
        }
        // 4, 4 and of the third, whose keys 8, 9, 10, 11 came again but for the last, 1
        due("6 went", v.compact(0), 3);
        due("6 nine records don't fit", v.segment(0, 0, 1), 8);
        due("6 nine records don't fit", v.segment(0, 1, 1), 1);
    }

    private static void retain() {
        KeyedLogs x = filled(10, 5);
        x.set(1, 50);
        due("7 50 sizes aren't above 50", x.retain(0), 0);
        x.set(1, 49);
        due("7 the first goes", x.retain(0), 4);
        due("7 start", x.of(0, 1), 4);
        due("7 no holes", x.of(0, 5), 0);
        due("7 gone", x.record(0, 3, 0), NO);
        due("7 stays", x.record(0, 4, 0), 4);
        due("7 its segment is the first now", x.record(0, 4, 5), 0);
        x.set(1, 0);
        due("7 never the active one", x.retain(0), 4);
        due("7 left", x.of(0, 0), 2);
        due("7 left", x.retain(0), 0);
        KeyedLogs y = filled(6, 1);
        x = y;
        x.tick(50);
        due("7 not below", x.retain(0), 0);
        x.tick(1);
        due("7 below TIME less AGE", x.retain(0), 4);
        due("7 the active one may be old", x.of(0, 0), 2);
        KeyedLogs z = new KeyedLogs();
        for (int i = 0; i < 4; i++) {
            z.put(0, 0, i, 1, 1);
        }
        z.put(0, 0, 9, 1, 1);
        z.compact(0);
        due("7 an empty one is there", z.segment(0, 0, 1), 0);
        due("7 an empty one goes", z.retain(0), 0);
        due("7 start", z.of(0, 1), 4);
        due("7 segments", z.of(0, 3), 1);
        KeyedLogs w = new KeyedLogs();
        w.put(0, 0, 1, 1, 1);
        w.tick(60);
        for (int i = 0; i < 3; i++) {
            w.put(0, 0, 1, 1, 1);
        }
        w.set(2, 0);
        due("7 the greatest TIME in it counts", w.retain(0), 0);
        for (int wrong : WRONG) {
            due("7 none", w.retain(wrong), NONE);
        }
    }

    private static void feed() {
        KeyedLogs x = new KeyedLogs();
        due("8 feed", x.feed(0), 1);
        due("8 feed", x.feed(127), 2);
        due("8 bad", x.feed(128), BAD);
        due("8 bad", x.feed(-1), BAD);
        for (int n = 3; n <= 100; n++) {
            due("8 feed", x.feed('0'), n);
        }
        due("8 full", x.feed('0'), FULL);
        due("8 bad ahead of full", x.feed(128), BAD);
        due("8 count", x.count(4), 100);
    }

    private static void read() {
        String[] faulty = {"", "0", "0a", "0a=", "0a=-", "0a=1/", "0a-;", "4", "/a-", "0A-", "0`-", "0{-",
            "0a+", "0a=+", "0a=12345", "0a=-12345", "0a=1/123", "0a=1/-1", "0a--", "0a=1 ", " 0a-",
            "0a-;;", "0a-,1b-", "0a=--1", "0a=1/2/3", "0a=1;4b-"};
        int[] places = {0, 1, 2, 3, 4, 5, 4, 0, 0, 1, 1, 1,
            2, 3, 7, 8, 7, 5, 3, 4, 0,
            4, 3, 4, 6, 5};
        for (int i = 0; i < faulty.length; i++) {
            due("9 " + faulty[i], reading(faulty[i]), -10 - places[i]);
        }
        String twelve = "0a-;1b-;2c-;3z-;0a-;0a-;0a-;0a-;0a-;0a-;0a-;0a-";
        due("9 twelve", reading(twelve), 12);
        due("9 thirteen", reading(twelve + ";0a-"), -10 - twelve.length());
        due("9 a fault behind", reading(twelve + "x"), -10 - twelve.length());

        KeyedLogs x = new KeyedLogs();
        x.tick(7);
        say(x, "0a=5/2;0b=-7;3z=9999/99;0a-;0c=1/0;0d=0/0;0e=-0;0f=-1/00");
        due("9 read", x.read(), 8);
        due("9 text is empty", x.count(4), 0);
        due("9 value", x.record(0, 0, 4), bits(2.5f));
        due("9 value", x.record(0, 1, 4), bits(-7f));
        due("9 value", x.record(3, 0, 4), bits(9999f / 99f));
        due("9 key", x.record(3, 0, 0), 25);
        due("9 tomb", x.record(0, 2, 3), 1);
        due("9 infinity", x.record(0, 3, 4), bits(1f / 0f));
        due("9 NaN", x.record(0, 4, 4), bits(Float.NaN));
        due("9 num is the int 0", x.record(0, 5, 4), bits(0f));
        due("9 minus infinity", x.record(0, 6, 4), bits(-1f / 0f));
        due("9 size", x.record(0, 6, 2), 1);
        due("9 time", x.record(0, 6, 1), 7);
        say(x, "0a=1;0a=x");
        due("9 fault", x.read(), -18);
        due("9 none came", x.of(0, 2), 7);
        due("9 empty by a fault, too", x.count(4), 0);
        say(x, "1k=12");
        due("9 again", x.read(), 1);
        say(x, "1k=1");
        due("9 a shorter one", x.read(), 1);
        due("9 a shorter one", x.value(1, 10), bits(1f));
        say(x, "1k-;");
        due("9 too short", x.read(), -14);
        String seven = "2a=1234;";
        String most = seven.repeat(10) + "2b=-1234;2c=-1234/12";
        due("9 100 signs", most.length(), 100);
        say(x, most);
        due("9 100 signs", x.read(), 12);
        due("9 the last", x.value(2, 2), bits(-1234f / 12f));
        say(x, most.substring(0, 89) + "2c=-1234/;");
        x.feed('0');
        due("9 a fault", x.read(), -108);
        say(x, seven.repeat(8) + "2b=-1234/1;".repeat(2) + "2b=-1234/12;2c");
        due("9 100 signs, too short", x.count(4), 100);
        due("9 100 signs, too short", x.read(), -110);

        KeyedLogs y = filled(199, 1);
        say(y, "0a=1;0b=2;1c=3;0d-");
        due("9 no room for two", y.read(), 2);
        due("9 room elsewhere", y.of(1, 2), 1);
        due("9 room for one", y.of(0, 2), 200);
    }

    private static void of() {
        KeyedLogs x = filled(9, 3);
        x.put(0, 0, 7, 1, 3);
        x.join(2);
        x.poll(2);
        x.compact(0);
        // segments: offsets 0 .. 3 without 0, 4 .. 7 do not fit together (21 sizes), 8 .. 9 active
        int[] of = {9, 0, 10, 3, 27, 1, 9, 2, 1, 1, 9};
        for (int what = 0; what < 11; what++) {
            due("10 of " + what, x.of(0, what), of[what]);
        }
        x.set(1, 26);
        x.retain(0);
        int[] then = {6, 4, 10, 2, 18, 0, 6, 2, 1, 4, 9};
        for (int what = 0; what < 11; what++) {
            due("10 of then " + what, x.of(0, what), then[what]);
        }
        due("10 what", x.of(0, 11), NONE);
        due("10 what", x.of(0, -1), NONE);
        for (int wrong : WRONG) {
            due("10 log", x.of(wrong, 0), NONE);
        }
    }

    private static void record() {
        KeyedLogs x = new KeyedLogs();
        x.put(1, 3, 1, 3, 4);
        x.tick(9);
        x.put(1, 4, -1, 3, 9);
        x.put(1, 4, -1, 3, 9);
        x.tomb(1, 5, 2);
        long[] first = {3, 0, 4, 0, bits(1f / 3f), 0};
        long[] last = {5, 9, 2, 1, NO, 1};
        for (int what = 0; what < 6; what++) {
            due("11 first " + what, x.record(1, 0, what), first[what]);
            due("11 last " + what, x.record(1, 3, what), last[what]);
        }
        due("11 sign", x.record(1, 1, 4), bits(-1f / 3f));
        due("11 what", x.record(1, 0, 6), NO);
        due("11 what", x.record(1, 0, -1), NO);
        due("11 offset", x.record(1, 4, 0), NO);
        for (int wrong : WRONG) {
            due("11 offset", x.record(1, wrong, 0), NO);
            due("11 log", x.record(wrong, 0, 0), NO);
        }
    }

    private static void segment() {
        KeyedLogs x = new KeyedLogs();
        int[] sizes = {9, 9, 1, 1, 4, 4, 4, 9, 9, 2, 5};
        for (int i = 0; i < sizes.length; i++) {
            x.put(0, i, 1, 1, sizes[i]);
        }
        // 9 9 1 1 and 4 4 4 9: by records and by sizes; 9 2 5: neither yet
        int[][] want = {{0, 4, 20, 1}, {4, 4, 21, 1}, {8, 3, 16, 0}};
        for (int k = 0; k < want.length; k++) {
            for (int what = 0; what < 4; what++) {
                due("12 segment " + k + " " + what, x.segment(0, k, what), want[k][what]);
            }
        }
        x.put(0, 0, 1, 1, 3);
        due("12 19 sizes, 4 records", x.segment(0, 2, 3), 1);
        due("12 a new one", x.segment(0, 3, 0), 12);
        KeyedLogs y = filled(3, 9);
        due("12 by sizes", y.segment(0, 0, 3), 1);
        due("12 by sizes", y.segment(0, 1, 0), 3);
        KeyedLogs z = filled(2, 9);
        z.put(0, 2, 1, 1, 1);
        due("12 19 sizes, 3 records", z.segment(0, 0, 3), 0);
        KeyedLogs w = filled(2, 9);
        w.put(0, 2, 1, 1, 2);
        due("12 20 sizes, 3 records", w.segment(0, 0, 3), 1);
        due("12 what", x.segment(0, 0, 4), NONE);
        due("12 what", x.segment(0, 0, -1), NONE);
        due("12 k", x.segment(0, 4, 0), NONE);
        for (int wrong : WRONG) {
            due("12 k", x.segment(0, wrong, 0), NONE);
            due("12 log", x.segment(wrong, 0, 0), NONE);
        }
        KeyedLogs full = filled(200, 9);
        due("12 the most there can be", full.of(0, 3), 67);
        due("12 the last base", full.segment(0, 66, 0), 198);
        KeyedLogs even = filled(200, 1);
        due("12 the last is begun at 200", even.segment(0, 50, 0), 200);
    }

    private static void value() {
        KeyedLogs x = new KeyedLogs();
        x.put(0, 0, 1, 2, 1);
        x.put(0, 0, 3, 2, 1);
        x.put(0, 1, 5, 2, 1);
        x.tomb(0, 1, 1);
        x.tomb(0, 2, 1);
        x.put(0, 2, 7, 2, 1);
        x.put(0, 25, 0, 0, 1);
        due("13 the last", x.value(0, 0), bits(1.5f));
        due("13 tomb", x.value(0, 1), NO);
        due("13 behind a tomb", x.value(0, 2), bits(3.5f));
        due("13 NaN", x.value(0, 25), bits(Float.NaN));
        due("13 never came", x.value(0, 3), NO);
        due("13 other log", x.value(1, 0), NO);
        due("13 key", x.value(0, -1), NO);
        due("13 key", x.value(0, 26), NO);
        for (int wrong : WRONG) {
            due("13 log", x.value(wrong, 0), NO);
        }
    }

    private static void map() {
        KeyedLogs x = new KeyedLogs();
        int[][] numbers = {{1, 3}, {16777216, 1}, {1, 1}, {-5, 7}, {1, 1000000}};
        float sum = 0.0f;
        double wide = 0.0;
        for (int i = numbers.length - 1; i >= 0; i--) {
            x.put(0, i, numbers[i][0], numbers[i][1], 1);
        }
        for (int[] n : numbers) {
            float f = (float) n[0] / (float) n[1];
            sum += f;
            wide += f;
        }
        x.put(0, 9, 1, 1, 1);
        x.tomb(0, 9, 1);
        due("14 how many", x.map(0, 0), 5);
        due("14 sum, by keys", x.map(0, 1), bits(sum));
        due("14 least", x.map(0, 2), bits(-5f / 7f));
        due("14 greatest", x.map(0, 3), bits(16777216f));
        due("14 mean", x.map(0, 4), Double.doubleToLongBits(wide / 5));
        KeyedLogs fresh = filled(3, 1);
        due("14 asked first", fresh.map(0, 2), bits(0f));
        fresh.put(0, 3, 7, 1, 1);
        due("14 asked at once", fresh.map(0, 3), bits(7f));
        fresh.put(0, 4, -7, 1, 1);
        due("14 asked at once", fresh.map(0, 2), bits(-7f));
        fresh.put(0, 5, 9, 1, 1);
        due("14 asked at once", fresh.map(0, 1), bits(12f));
        fresh.tomb(0, 4, 1);
        due("14 asked at once", fresh.map(0, 4), Double.doubleToLongBits(3.8));
        due("14 none: sum", x.map(1, 1), 0);
        due("14 none: how many", x.map(1, 0), 0);
        for (int what = 2; what < 5; what++) {
            due("14 none", x.map(1, what), NO);
        }
        due("14 what", x.map(0, 5), NO);
        due("14 what", x.map(0, -1), NO);
        for (int wrong : WRONG) {
            due("14 log", x.map(wrong, 0), NO);
        }
    }

    private static void mapOfOddValues() {
        // each row: nums and dens by keys
        int[][] rows = {{1, 0, 2, 1}, {-1, 0, 2, 1}, {1, 0, -1, 0}, {-1, 0, 1, 0, 3, 1}, {0, 0, 1, 1},
            {1, 0, 0, 0}, {0, 0, -1, 0}, {1, 0, 5, 0}, {-1, 0, -7, 0}, {0, -1}, {0, -1, 0, -3}, {0, -1, 0, 1},
            {0, 1, 0, -1}, {1, 3, -1, 3}, {Integer.MAX_VALUE, 1, 1, Integer.MAX_VALUE},
            {16777217, 3, -16777216, 3, 1, 9}, {0, 0}, {1, 0, -1, 0, 0, 0, 7, 1},
            {-1, 1, -2, 1, -3, 1}, {Integer.MIN_VALUE, 1, Integer.MIN_VALUE, 1, Integer.MIN_VALUE, 1}};
        for (int[] row : rows) {
            KeyedLogs x = new KeyedLogs();
            float sum = 0.0f;
            double wide = 0.0;
            float least = Float.NaN;
            float greatest = Float.NEGATIVE_INFINITY;
            for (int i = 0; i < row.length; i += 2) {
                x.put(0, i, row[i], row[i + 1], 1);
                float f = (float) row[i] / (float) row[i + 1];
                sum += f;
                wide += f;
                least = Float.compare(f, least) < 0 ? f : least;
                greatest = Float.compare(f, greatest) > 0 ? f : greatest;
            }
            String name = "14 " + java.util.Arrays.toString(row);
            due(name + " sum", x.map(0, 1), bits(sum));
            due(name + " least", x.map(0, 2), bits(least));
            due(name + " greatest", x.map(0, 3), bits(greatest));
            due(name + " mean", x.map(0, 4), Double.doubleToLongBits(wide / (row.length / 2)));
        }
    }

    private static void replay() {
        KeyedLogs x = new KeyedLogs();
        x.put(0, 0, 1, 2, 1);
        x.put(0, 1, 3, 2, 1);
        x.tomb(0, 0, 1);
        x.put(0, 1, 5, 2, 1);
        int[] many = {0, 1, 2, 1, 1};
        for (int offset = 0; offset < many.length; offset++) {
            due("15 replay " + offset, x.replay(0, offset, -1), many[offset]);
        }
        due("15 beyond the end", x.replay(0, Integer.MAX_VALUE, -1), 1);
        due("15 not in it", x.replay(0, 0, 0), NO);
        due("15 value", x.replay(0, 1, 0), bits(0.5f));
        due("15 tomb", x.replay(0, 3, 0), NO);
        due("15 value then", x.replay(0, 3, 1), bits(1.5f));
        due("15 value at the end", x.replay(0, 4, 1), bits(2.5f));
        due("15 offset", x.replay(0, -1, -1), NO);
        due("15 offset", x.replay(0, Integer.MIN_VALUE, 0), NO);
        due("15 key", x.replay(0, 4, -2), NO);
        due("15 key", x.replay(0, 4, 26), NO);
        for (int wrong : WRONG) {
            due("15 log", x.replay(wrong, 0, -1), NO);
        }
        x.put(0, 2, 1, 1, 1);
        x.compact(0);
        due("15 by what is left", x.replay(0, 2, 1), NO);
        due("15 changes nothing", x.of(0, 0), 3);
    }

    private static void near() {
        KeyedLogs x = filled(4, 1);
        x.put(0, 1, 1, 1, 1);
        x.put(0, 2, 1, 1, 1);
        x.compact(0);
        // left: 0, 3, 4, 5
        int[] before = {0, 0, 0, 3, 4, 5, 5};
        int[] behind = {0, 3, 3, 3, 4, 5, -5};
        for (int offset = 0; offset < before.length; offset++) {
            due("16 before " + offset, x.near(0, offset, 0), before[offset]);
            due("16 behind " + offset, x.near(0, offset, 1), behind[offset]);
        }
        due("16 before", x.near(0, -1, 0), -5);
        due("16 behind", x.near(0, -1, 1), 0);
        due("16 before", x.near(0, Integer.MIN_VALUE, 0), -5);
        due("16 behind", x.near(0, Integer.MIN_VALUE, 1), 0);
        due("16 before", x.near(0, Integer.MAX_VALUE, 0), 5);
        due("16 behind", x.near(0, Integer.MAX_VALUE, 1), -5);
        due("16 empty", x.near(1, 0, 0), -5);
        due("16 empty", x.near(1, 0, 1), -5);
        due("16 how", x.near(0, 0, 2), NONE);
        due("16 how", x.near(0, 0, -1), NONE);
        for (int wrong : WRONG) {
            due("16 log", x.near(wrong, 0, 0), NONE);
        }
    }

    private static void oldest() {
        KeyedLogs x = new KeyedLogs();
        int[] sizes = {1, 3, 3, 9, 2, 9};
        for (int i = 0; i < 6; i++) {
            if (i == 4) {
                x.tick(1);
            }
            x.put(0, i, 1, 1, sizes[i]);
        }
        int[] want = {3, 1, 2, 0, 5, 4, -5, -5};
        for (int k = 0; k < want.length; k++) {
            due("17 oldest " + k, x.oldest(0, k), want[k]);
        }
        x.put(0, 1, 1, 1, 1);
        x.compact(0);
        int[] then = {3, 2, 0, 5, 4, 6, -5};
        for (int k = 0; k < then.length; k++) {
            due("17 oldest then " + k, x.oldest(0, k), then[k]);
        }
        due("17 beyond", x.oldest(0, Integer.MAX_VALUE), -5);
        due("17 k", x.oldest(0, -1), NONE);
        due("17 k", x.oldest(0, Integer.MIN_VALUE), NONE);
        for (int wrong : WRONG) {
            due("17 log", x.oldest(wrong, 0), NONE);
        }
    }

    private static void would() {
        KeyedLogs x = filled(8, 4);
        x.put(0, 0, 1, 1, 4);
        x.tomb(0, 1, 4);
        x.set(1, 24);
        due("18 compacted", x.would(0, 0), 2);
        due("18 retained", x.would(0, 1), 4);
        due("18 changes nothing", x.of(0, 0), 10);
        due("18 changes nothing", x.of(0, 3), 3);
        due("18 compacted", x.compact(0), 2);
        due("18 retained", x.retain(0), 2);
        due("18 what", x.would(0, 2), NONE);
        due("18 an empty log", x.would(1, 0), 0);
        due("18 an empty log", x.would(1, 1), 0);
        KeyedLogs y = filled(4, 1);
        y.put(0, 0, 1, 1, 1);
        y.put(0, 0, 1, 1, 1);
        due("18 not the active one's", y.would(0, 0), 1);
        KeyedLogs z = filled(3, 1);
        due("18 the active one alone", z.would(0, 0), 0);
        z.set(1, 0);
        due("18 the active one alone", z.would(0, 1), 0);
        due("18 what", x.would(0, -1), NONE);
        for (int wrong : WRONG) {
            due("18 log", x.would(wrong, 0), NONE);
        }
    }

    private static void need() {
        KeyedLogs x = filled(10, 5);
        // 50 sizes; without the first 30, without the second 10
        int[] want = {0, 0, 0, 30, 30, 30, 30, 50, 50, 50, 50, -5};
        for (int n = 0; n < want.length; n++) {
            due("19 need " + n, x.need(0, n), want[n]);
        }
        due("19 no so many", x.need(0, 200), -5);
        due("19 n", x.need(0, 201), BAD);
        due("19 n", x.need(0, -1), BAD);
        for (int wrong : WRONG) {
            due("19 log", x.need(wrong, 201), NONE);
        }
        x.tick(51);
        due("19 too old", x.need(0, 3), -5);
        due("19 the active one", x.need(0, 2), 0);
        due("19 changes nothing", x.told(2), 100);
        KeyedLogs y = filled(45, 5);
        due("19 205 sizes would be left", y.need(0, 41), -5);
        KeyedLogs z = filled(40, 5);
        due("19 200 sizes", z.need(0, 40), 200);
        z.put(0, 0, 1, 1, 1);
        due("19 201 sizes", z.need(0, 41), -5);
    }

    private static void join() {
        KeyedLogs x = new KeyedLogs();
        due("20 the first", x.join(2), 4);
        due("20 it is", x.join(2), STATE);
        due("20 the second", x.join(0), 2);
        due("20 least ones stay", x.member(2, 1), 0b0011);
        due("20 the others go", x.member(0, 1), 0b1100);
        due("20 the third", x.join(1), 1);
        // q 1, m 1: member 0 is the first with more than 1 and keeps 2, member 2 keeps 1
        due("20 keeps", x.member(0, 1), 0b1100);
        due("20 keeps", x.member(2, 1), 0b0001);
        due("20 comes", x.member(1, 1), 0b0010);
        due("20 the fourth", x.join(3), 1);
        due("20 comes", x.member(3, 1), 0b1000);
        due("20 of", x.of(3, 7), 3);
        KeyedLogs y = new KeyedLogs();
        y.join(1);
        y.join(2);
        due("20 the least number comes last", y.join(0), 1);
        due("20 the first ahead keeps one more", y.member(1, 1), 0b0011);
        due("20 its least one", y.member(2, 1), 0b0100);
        due("20 comes", y.member(0, 1), 0b1000);
        for (int wrong : WRONG) {
            due("20 none", x.join(wrong), NONE);
        }
    }

    private static void leave() {
        KeyedLogs x = new KeyedLogs();
        due("21 not in", x.leave(0), STATE);
        for (int m = 0; m < 4; m++) {
            x.join(m);
        }
        due("21 owners", x.of(0, 7), 0);
        due("21 leave", x.leave(0), 1);
        due("21 to the least number", x.of(0, 7), 1);
        due("21 leave", x.leave(2), 1);
        due("21 to who has least", x.member(3, 0), 1);
        due("21 shares", Integer.bitCount(x.member(1, 1)), 2);
        due("21 shares", Integer.bitCount(x.member(3, 1)), 2);
        due("21 not in", x.leave(0), STATE);
        due("21 leave", x.leave(1), 2);
        due("21 all", x.member(3, 1), 0b1111);
        due("21 the last", x.leave(3), 4);
        due("21 of none", x.of(0, 7), -5);
        for (int wrong : WRONG) {
            due("21 none", x.leave(wrong), NONE);
        }
    }

    private static void poll() {
        KeyedLogs x = new KeyedLogs();
        x.put(1, 0, 1, 1, 1);
        x.put(3, 0, 1, 1, 1);
        x.put(3, 1, 1, 1, 1);
        due("22 not in", x.poll(0), STATE);
        x.join(0);
        due("22 poll", x.poll(0), 1000);
        due("22 done", x.of(1, 8), 1);
        due("22 poll", x.poll(0), 3000);
        due("22 a lower log first", x.put(1, 0, 1, 1, 1), 1);
        due("22 poll", x.poll(0), 1001);
        due("22 poll", x.poll(0), 3001);
        due("22 none is left", x.poll(0), -5);
        due("22 read", x.told(4), 4);
        due("22 not in", x.poll(1), STATE);
        for (int wrong : WRONG) {
            due("22 none", x.poll(wrong), NONE);
        }
        KeyedLogs y = new KeyedLogs();
        for (int i = 0; i < 6; i++) {
            y.put(0, 0, i, 1, 1);
        }
        y.join(3);
        y.compact(0);
        due("22 over holes", y.poll(3), 4);
        due("22 done is behind", y.of(0, 8), 5);
    }

    private static void seek() {
        KeyedLogs x = filled(5, 1);
        due("23 seek", x.seek(0, 5), 0);
        due("23 seek back", x.seek(0, 2), 5);
        due("23 done", x.of(0, 8), 2);
        due("23 beyond", x.seek(0, 6), BAD);
        due("23 below", x.seek(0, -1), BAD);
        due("23 stays", x.of(0, 8), 2);
        due("23 an empty log", x.seek(1, 0), 0);
        due("23 an empty log", x.seek(1, 1), BAD);
        for (int wrong : WRONG) {
            due("23 none", x.seek(wrong, -1), NONE);
        }
    }

    private static void member() {
        KeyedLogs x = filled(6, 1);
        x.put(1, 0, 1, 1, 1);
        x.put(2, 0, 1, 1, 1);
        x.join(1);
        x.join(3);
        x.seek(0, 4);
        int[] one = {1, 0b0011, 3};
        int[] three = {1, 0b1100, 1};
        for (int what = 0; what < 3; what++) {
            due("24 member 1 " + what, x.member(1, what), one[what]);
            due("24 member 3 " + what, x.member(3, what), three[what]);
            due("24 member 0 " + what, x.member(0, what), 0);
        }
        due("24 what", x.member(1, 3), NONE);
        due("24 what", x.member(1, -1), NONE);
        for (int wrong : WRONG) {
            due("24 none", x.member(wrong, 0), NONE);
        }
    }

    private static void told() {
        KeyedLogs x = filled(2, 1);
        x.tick(3);
        x.set(0, 11);
        x.set(1, 12);
        x.set(2, 13);
        x.join(1);
        x.join(3);
        x.poll(1);
        int[] want = {3, 11, 12, 13, 1, 0b1010};
        for (int what = 0; what < 6; what++) {
            due("25 told " + what, x.told(what), want[what]);
        }
        due("25 what", x.told(6), NONE);
        due("25 what", x.told(-1), NONE);
    }

    private static void odds() {
        KeyedLogs x = filled(10, 5);
        // 50 sizes: KEEP 50 .. 95, ten of twenty
        due("26 above", x.odds(0, 0), 1);
        due("26 below", x.odds(0, 1), 2);
        x.put(0, 0, 1, 1, 1);
        due("26 51 sizes", x.odds(0, 0), 9);
        due("26 51 sizes", x.odds(0, 1), 20);
        due("26 sure", x.odds(1, 0), 1);
        due("26 sure", x.odds(1, 1), 1);
        KeyedLogs y = filled(20, 5);
        due("26 never", y.odds(0, 0), 0);
        due("26 never", y.odds(0, 1), 1);
        KeyedLogs w = filled(5, 2);
        due("26 18 of 20", w.odds(0, 0), 9);
        due("26 18 of 20", w.odds(0, 1), 10);
        KeyedLogs z = new KeyedLogs();
        for (int i = 0; i < 6; i++) {
            z.put(0, 0, i, 1, 3);
        }
        z.compact(0);
        due("26 an empty segment takes no record", z.odds(0, 0), 1);
        due("26 part", x.odds(0, 2), NO);
        due("26 part", x.odds(0, -1), NO);
        for (int wrong : WRONG) {
            due("26 log", x.odds(wrong, 0), NO);
        }
    }

    private static void plan() {
        KeyedLogs x = new KeyedLogs();
        due("27 plan", x.plan(0, 3), 1);
        due("27 plan", x.plan(1, 0), 2);
        due("27 plan", x.plan(2, 3), 3);
        due("27 plan", x.plan(3, 99), 4);
        due("27 what", x.plan(4, 0), NONE);
        due("27 what", x.plan(-2, 0), NONE);
        for (int wrong : WRONG) {
            due("27 log", x.plan(0, wrong), NONE);
            due("27 log", x.plan(1, wrong), NONE);
            due("27 member", x.plan(2, wrong), NONE);
        }
        due("27 n", x.plan(3, 100), BAD);
        due("27 n", x.plan(3, -1), BAD);
        for (int n = 5; n <= 10; n++) {
            due("27 plan", x.plan(3, 0), n);
        }
        due("27 full", x.plan(3, 0), FULL);
        due("27 none ahead of full", x.plan(0, 4), NONE);
        due("27 bad ahead of full", x.plan(3, 100), BAD);
        due("27 empty", x.plan(-1, 77), 0);
        due("27 count", x.count(2), 0);
        due("27 again", x.plan(0, 0), 1);
    }

    private static void ends() {
        KeyedLogs x = filled(8, 1);
        x.put(0, 0, 1, 1, 1);
        x.put(1, 0, 1, 1, 1);
        x.join(0);
        due("28 no plan", x.ends(0), 10);
        due("28 no plan", x.ends(1), 0);
        x.plan(2, 0);
        x.plan(2, 1);
        x.plan(0, 0);
        x.plan(3, 51);
        x.plan(2, 0);
        due("28 compacted", x.ends(0), 9);
        due("28 one is not in", x.ends(1), 2);
        x.plan(1, 0);
        due("28 retained", x.ends(0), 2);
        due("28 what", x.ends(2), NONE);
        due("28 what", x.ends(-1), NONE);
        due("28 changes nothing", x.count(0), 10);
        due("28 changes nothing", x.told(0), 0);
        due("28 changes nothing", x.told(4), 0);
        due("28 changes nothing", x.of(0, 8), 0);
        due("28 changes nothing", x.of(0, 3), 3);
        due("28 again", x.ends(0), 2);
        KeyedLogs y = filled(4, 5);
        y.tick(20);
        for (int i = 0; i < 5; i++) {
            y.tomb(0, 5 + i, 5);
        }
        y.plan(3, 4);
        y.plan(0, 0);
        due("28 grace", y.ends(0), 9);
        y.plan(3, 1);
        y.plan(0, 0);
        due("28 grace", y.ends(0), 5);
        y.set(1, 24);
        y.plan(1, 0);
        due("28 sizes", y.ends(0), 1);
        y.set(1, 25);
        due("28 sizes", y.ends(0), 5);
    }

    private static void book() {
        KeyedLogs x = new KeyedLogs();
        due("29 book", x.book(0, 0), 1);
        due("29 book", x.book(3, 200), 2);
        due("29 start", x.book(0, 201), BAD);
        due("29 start", x.book(0, -1), BAD);
        due("29 log", x.book(4, 201), NONE);
        due("29 log", x.book(-2, 0), NONE);
        for (int n = 3; n <= 8; n++) {
            due("29 book", x.book(1, n), n);
        }
        due("29 full", x.book(0, 0), FULL);
        due("29 bad ahead of full", x.book(0, 201), BAD);
        due("29 none ahead of full", x.book(4, 0), NONE);
        due("29 empty", x.book(-1, -9), 0);
        due("29 count", x.count(3), 0);
    }

    private static void looked() {
        KeyedLogs x = filled(6, 1);
        due("30 empty", x.looked(), -5);
        x.book(0, 0);
        x.book(1, 0);
        due("30 as told", x.looked(), -5);
        x.book(0, 4);
        due("30 otherwise", x.looked(), 2);
        x.set(1, 0);
        x.retain(0);
        due("30 the first", x.looked(), 0);
    }

    private static void keep() {
        KeyedLogs x = new KeyedLogs();
        x.put(0, 0, 1, 2, 1);
        x.put(0, 1, 3, 2, 1);
        x.tomb(0, 2, 1);
        x.put(0, 3, 5, 2, 1);
        due("31 any", x.keep(0, 0, 4), 4);
        due("31 any", x.keep(0, 0, 60), 4);
        due("31 no place more", x.keep(0, 0, 3), PLACE);
        due("31 those came", x.kept(2, 0), 2);
        due("31 that did not", x.kept(3, 0), NO);
        due("31 a tomb among values", x.keep(0, 1, 4), STORED);
        due("31 those ahead came", x.kept(1, 0), 1);
        due("31 it did not", x.kept(2, 0), NO);
        due("31 a tomb without a place", x.keep(0, 1, 2), PLACE);
        due("31 those came", x.kept(1, 1), 1);
        due("31 no place at all", x.keep(0, 1, 0), PLACE);
        due("31 none came", x.kept(0, 0), NO);
        due("31 none to come", x.keep(1, 1, 0), 0);
        due("31 any", x.keep(0, 0, 9), 4);
        due("31 sort", x.keep(1, 2, -1), BAD);
        due("31 sort", x.keep(1, -1, 0), BAD);
        due("31 n", x.keep(1, 0, 61), BAD);
        due("31 size", x.keep(1, 0, -1), SIZE);
        due("31 size", x.keep(1, 1, Integer.MIN_VALUE), SIZE);
        for (int wrong : WRONG) {
            due("31 log", x.keep(wrong, 2, -1), NONE);
        }
        due("31 KEPT stays", x.kept(3, 0), 3);
        due("31 60 places", filled(60, 1).keep(0, 1, 60), 60);
        due("31 61 records", filled(61, 1).keep(0, 1, 60), PLACE);
    }

    private static void kept() {
        KeyedLogs x = new KeyedLogs();
        x.put(2, 0, 9, 1, 1);
        x.put(2, 4, -3, 2, 1);
        x.tomb(2, 5, 1);
        x.put(2, 0, 8, 1, 1);
        x.compact(2);
        x.keep(2, 0, 5);
        long[][] want = {{1, 4, 0, bits(-1.5f)}, {2, 5, 1, NO}, {3, 0, 0, bits(8f)}, {NO, NO, NO, NO}};
        for (int k = 0; k < want.length; k++) {
            for (int what = 0; what < 4; what++) {
                due("32 kept " + k + " " + what, x.kept(k, what), want[k][what]);
            }
        }
        due("32 what", x.kept(0, 4), NO);
        due("32 what", x.kept(0, -1), NO);
        for (int wrong : WRONG) {
            due("32 k", x.kept(wrong, 0), NO);
        }
        x.set(1, 0);
        x.retain(2);
        due("32 stays as it was put", x.kept(0, 0), 1);
    }

    private static void judge() {
        KeyedLogs x = new KeyedLogs();
        due("33 it has none", x.judge(0, 0, 0), -5);
        due("33 it has none", x.judge(0, 0, -1), -5);
        for (int i = 0; i < 5; i++) {
            x.put(0, i % 4, 1, 1, 1);
        }
        x.compact(0);
        // left: 1, 2, 3, 4
        due("33 nothing is held", x.judge(0, 0, 0), 100);
        x.tape(0, 1, 6);
        for (int i = 0; i < 4; i++) {
            x.item(0, i + 1, i + 1);
        }
        due("33 all", x.judge(0, 0, 1), -5);
        due("33 the first", x.judge(0, 0, 0), 0);
        x.item(0, 3, 9);
        due("33 the third", x.judge(0, 0, 1), 2);
        x.item(0, 4, 1);
        x.item(0, 5, 2);
        due("33 the row ends", x.judge(0, 0, 4), 102);
        due("33 at the end", x.judge(0, 0, 6), 100);
        due("33 beyond", x.judge(0, 0, Integer.MAX_VALUE), 100);
        due("33 below", x.judge(0, 0, -1), 100);
        due("33 below", x.judge(0, 0, Integer.MIN_VALUE), 100);
        x.put(2, 0, 1, 1, 1);
        due("33 from offset 0 on", x.judge(2, 0, 0), -5);
        due("33 from offset 0 on", x.judge(2, 0, 1), 0);
        for (int sort = 0; sort < 5; sort++) {
            x.tape(1, sort, 3);
            due("33 cast " + sort, x.judge(1, 1, 0), sort == 1 ? -5 : CAST);
        }
        for (int wrong : WRONG) {
            due("33 log", x.judge(wrong, 1, 0), NONE);
        }
        due("33 tape", x.judge(0, 6, 0), NONE);
        due("33 tape", x.judge(0, -1, 0), NONE);
    }

    private static void imageAndUndo() {
        KeyedLogs x = filled(9, 3);
        due("35 none yet", x.undo(), STATE);
        x.compact(0);
        x.tick(5);
        x.set(0, 1);
        x.set(1, 22);
        x.set(2, 3);
        x.join(1);
        x.poll(1);
        x.plan(3, 4);
        x.book(2, 7);
        x.tape(0, 1, 4);
        due("34 image", x.image(), 9);
        x.put(0, 0, 5, 1, 1);
        x.put(3, 0, 5, 1, 1);
        x.retain(0);
        x.tick(9);
        x.set(0, 9);
        x.set(1, 9);
        x.set(2, 9);
        x.join(0);
        x.poll(0);
        x.seek(0, 7);
        x.plan(1, 0);
        x.book(0, 0);
        x.feed('0');
        x.tape(0, 2, 2);
        x.keep(3, 0, 2);
        due("35 undo", x.undo(), 9);
        int[] of = {9, 0, 9, 3, 27, 0, 9, 1, 1, 0, 8};
        for (int what = 0; what < 11; what++) {
            due("35 of " + what, x.of(0, what), of[what]);
        }
        int[] told = {5, 1, 22, 3, 1, 0b0010};
        for (int what = 0; what < 6; what++) {
            due("35 told " + what, x.told(what), told[what]);
        }
        int[] count = {9, 1, 1, 1, 1};
        for (int what = 0; what < 5; what++) {
            due("35 count " + what, x.count(what), count[what]);
        }
        due("35 value", x.value(0, 0), bits(0f));
        due("35 book", x.looked(), 0);
        due("35 not the tapes", x.peek(0, 1), 0);
        due("35 not the tapes", x.judge(0, 0, 0), CAST);
        due("35 not KEPT", x.kept(0, 3), bits(5f));
        due("35 offsets", x.put(0, 0, 5, 1, 1), 9);
        due("35 twice", x.undo(), 9);
        x.put(0, 0, 5, 1, 1);
        due("34 a new one", x.image(), 10);
        x.put(0, 0, 5, 1, 1);
        due("35 to the new one", x.undo(), 10);
    }

    /** Offset 200 is END: no row has a place for it. */
    private static void fullLog() {
        KeyedLogs x = filled(200, 1);
        x.image();
        x.undo();
        due("11 at the end", x.record(0, 200, 0), NO);
        due("11 the last", x.record(0, 199, 5), 49);
        due("10 greatest", x.of(0, 10), 199);
        due("12 begun at the end", x.segment(0, 50, 1), 0);
        due("14 how many", x.map(0, 0), 26);
        due("15 at the end", x.replay(0, 201, -1), 26);
        due("16 before the end", x.near(0, 200, 0), 199);
        due("16 behind the end", x.near(0, 200, 1), -5);
        due("17 beyond", x.oldest(0, 200), -5);
        due("18 all but 26", x.would(0, 0), 174);
        due("23 to the end", x.seek(0, 200), 0);
        due("24 no lag", x.member(0, 2), 0);
        x.join(0);
        due("22 at the end", x.poll(0), -5);
        due("31 too many", x.keep(0, 0, 60), PLACE);
        x.tape(0, 1, 60);
        for (int i = 0; i < 60; i++) {
            x.item(0, i, i);
        }
        due("33 the row ends", x.judge(0, 0, 0), 160);
        due("6 all but 26", x.compact(0), 174);
        due("31 all", x.keep(0, 1, 26), 26);
        for (int i = 0; i < 26; i++) {
            x.item(0, i, 174 + i);
        }
        due("33 all", x.judge(0, 0, 0), -5);
        // 174 .. 179 with all the empty ones ahead, 180 .. 187, 188 .. 195, 196 .. 199, the active one
        due("6 joined", x.of(0, 3), 5);
        due("6 joined", x.segment(0, 0, 1), 6);
        due("6 joined", x.segment(0, 1, 0), 180);
        x.set(1, 0);
        due("7 all", x.retain(0), 26);
        due("7 start", x.of(0, 1), 200);
        x.book(0, 200);
        due("30 as told", x.looked(), -5);
        due("10 segments", x.of(0, 3), 1);
    }

    private static void count() {
        KeyedLogs x = filled(3, 1);
        x.put(2, 0, 1, 1, 1);
        x.join(0);
        x.join(3);
        x.plan(3, 1);
        x.plan(3, 1);
        x.plan(3, 1);
        x.book(0, 0);
        x.feed(1);
        x.feed(1);
        x.feed(1);
        x.feed(1);
        x.feed(1);
        int[] want = {4, 2, 3, 1, 5};
        for (int what = 0; what < 5; what++) {
            due("36 count " + what, x.count(what), want[what]);
        }
        due("36 what", x.count(5), BAD);
        due("36 what", x.count(-1), BAD);
    }

    private static void tape() {
        KeyedLogs x = new KeyedLogs();
        due("37 tape", x.tape(5, 4, 60), 1);
        due("37 the last", x.peek(5, 59), 0);
        due("37 no more", x.peek(5, 60), NO);
        x.item(5, 0, 1);
        due("37 anew", x.tape(5, 4, 1), 1);
        due("37 all 0", x.peek(5, 0), 0);
        due("37 empty row", x.tape(0, 0, 0), 1);
        due("37 empty row", x.item(0, 0, 0), PLACE);
        due("37 nothing", x.tape(5, -1, -7), 1);
        due("37 nothing", x.item(5, 0, 0), NOTHING);
        due("37 nothing", x.tape(5, -1, 99), 1);
        due("37 sort", x.tape(0, 5, -1), BAD);
        due("37 sort", x.tape(0, -2, 1), BAD);
        due("37 n", x.tape(0, 0, 61), BAD);
        due("37 size", x.tape(0, 0, -1), SIZE);
        due("37 size", x.tape(0, 4, Integer.MIN_VALUE), SIZE);
        due("37 tape", x.tape(6, 5, -1), NONE);
        due("37 tape", x.tape(-1, -1, 0), NONE);
        due("37 stays", x.item(0, 0, 0), PLACE);
    }

    private static void item() {
        long v = 0xfedc_ba98_89ab_cd80L;
        long[] want = {(byte) v, (short) v, (int) v, v, 1};
        KeyedLogs x = new KeyedLogs();
        for (int sort = 0; sort < 5; sort++) {
            x.tape(sort, sort, 3);
            due("38 item", x.item(sort, 2, v), 1);
            due("38 item of " + sort, x.peek(sort, 2), want[sort]);
            due("38 others stay", x.peek(sort, 1), 0);
            due("38 item", x.item(sort, 2, 1L << 40), 1);
            due("38 high bits of " + sort, x.peek(sort, 2), sort == 3 ? 1L << 40 : sort == 4 ? 1 : 0);
            due("38 item", x.item(sort, 2, 0), 1);
            due("38 zero", x.peek(sort, 2), 0);
        }
        due("38 place", x.item(0, 3, 1), PLACE);
        due("38 place", x.item(0, -1, 1), PLACE);
        due("38 place", x.item(0, Integer.MIN_VALUE, 1), PLACE);
        due("38 nothing", x.item(5, -1, 1), NOTHING);
        due("38 none", x.item(6, 0, 1), NONE);
        due("38 none", x.item(-1, 0, 1), NONE);
    }

    private static void peek() {
        KeyedLogs x = new KeyedLogs();
        x.tape(1, 2, 2);
        x.item(1, 1, -9);
        due("39 peek", x.peek(1, 0), 0);
        due("39 peek", x.peek(1, 1), -9);
        due("39 place", x.peek(1, 2), NO);
        due("39 place", x.peek(1, -1), NO);
        due("39 nothing", x.peek(0, 0), NO);
        due("39 none", x.peek(6, 0), NO);
        due("39 none", x.peek(-1, 0), NO);
        x.tape(1, -1, 0);
        due("39 nothing any more", x.peek(1, 0), NO);
    }

    private static void shift() {
        KeyedLogs x = new KeyedLogs();
        x.tape(0, 2, 6);
        x.tape(1, 2, 3);
        x.tape(2, 1, 6);
        for (int i = 0; i < 6; i++) {
            x.item(0, i, 10 + i);
        }
        due("40 shift", x.shift(0, 4, 1, 1, 2), 2);
        due("40 shifted", x.peek(1, 0), 0);
        due("40 shifted", x.peek(1, 1), 14);
        due("40 shifted", x.peek(1, 2), 15);
        due("40 the same", x.shift(0, 0, 0, 1, 5), 5);
        int[] want = {10, 10, 11, 12, 13, 14};
        for (int i = 0; i < 6; i++) {
            due("40 as they were", x.peek(0, i), want[i]);
        }
        due("40 the same, back", x.shift(0, 2, 0, 0, 4), 4);
        int[] then = {11, 12, 13, 14, 13, 14};
        for (int i = 0; i < 6; i++) {
            due("40 as they were", x.peek(0, i), then[i]);
        }
        due("40 none of them", x.shift(0, 6, 1, 3, 0), 0);
        due("40 n", x.shift(0, 0, 1, 0, -1), PLACE);
        due("40 i", x.shift(0, -1, 1, 0, 1), PLACE);
        due("40 j", x.shift(0, 0, 1, -1, 1), PLACE);
        due("40 end", x.shift(0, 6, 1, 0, 1), PLACE);
        due("40 end", x.shift(0, 7, 1, 0, 0), PLACE);
        due("40 other's end", x.shift(0, 0, 1, 1, 3), PLACE);
        due("40 other's end", x.shift(0, 0, 1, 4, 0), PLACE);
        due("40 far", x.shift(0, Integer.MAX_VALUE, 1, 0, Integer.MAX_VALUE), PLACE);
        due("40 far", x.shift(0, 1, 1, 1, Integer.MAX_VALUE), PLACE);
        due("40 cast", x.shift(0, -1, 2, 0, 1), CAST);
        due("40 nothing", x.shift(0, -1, 3, 0, 1), NOTHING);
        due("40 nothing", x.shift(3, 0, 2, 0, 1), NOTHING);
        due("40 none", x.shift(6, 0, 3, 0, 1), NONE);
        due("40 none", x.shift(3, 0, -1, 0, 1), NONE);
        due("40 nothing changed", x.peek(1, 1), 14);
    }
}
