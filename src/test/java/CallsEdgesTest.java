/** The edges that the promises name, sentence by sentence, and what is answered behind a refused call. */
public final class CallsEdgesTest {
    private static final Sentences S = new Sentences();
    private static final int NONE = Scene.NONE, BAD = Scene.BAD, STATE = Scene.STATE, FULL = Scene.FULL;
    private static final int NOTHING = Scene.NOTHING, CAST = Scene.CAST, PLACE = Scene.PLACE;
    private static final int SIZE = Scene.SIZE, STORED = Scene.STORED;
    private static final int MIN = Scene.MIN, MAX = Scene.MAX;
    private static final long NO = Scene.NO;

    public static void main(String[] args) {
        calls512();
        recordCalls();
        asksOfLogs();
        memberCalls();
        oddsPlansBooks();
        judgingImageTapes();
        S.end("CallsEdgesTest");
    }

    private static void recordCalls() {
        newObject();
        put();
        tomb();
        tick();
        set();
        compact();
        retain();
        feed();
        read();
        of();
        record();
        segment();
    }

    private static void asksOfLogs() {
        value();
        map();
        replay();
        near();
        oldest();
        would();
        need();
    }

    private static void memberCalls() {
        join();
        leave();
        poll();
        seek();
        member();
        told();
    }

    private static void oddsPlansBooks() {
        odds();
        plan();
        ends();
        book();
        looked();
        keep();
        kept();
    }

    private static void judgingImageTapes() {
        judge();
        image();
        undo();
        count();
        tape();
        item();
        peek();
        shift();
    }

    /** A call of a rich object that is refused. */
    private static void refused(String name, Looks.Call call, long answer) {
        S.refused(name, Scene::rich, call, answer);
    }

    interface CallWith {
        long on(KeyedLogs x, int n);
    }

    /** The same for each of some wrong numbers. */
    private static void eachRefused(String name, int[] numbers, CallWith call, long answer) {
        for (int n : numbers) {
            refused(name + " " + n, x -> call.on(x, n), answer);
        }
    }

    private static int[] but(int below, int above) {
        return new int[] {below, above, MIN, MAX};
    }

    private static void calls512() {
        S.part("An object is used", "## The public face");
        S.says("An object is used for at most 512 calls after it has been made; what later calls answer is free.");
        KeyedLogs x = new KeyedLogs();
        for (int n = 1; n <= 512; n++) {
            S.due("call " + n, x.tick(1), n);
        }
        KeyedLogs y = Scene.filled(200, 1);
        for (int n = 201; n < 512; n++) {
            S.due("call " + n, y.image(), 200);
        }
        S.due("call 512", y.undo(), 200);
    }

    // ---- records

    private static void newObject() {
        S.promise(1);
        S.says("No RECORDS, nobody IN.");
        KeyedLogs x = new KeyedLogs();
        S.due("RECORDS", x.count(0), 0);
        S.due("IN", x.count(1), 0);
        int[] of = {0, 0, 0, 1, 0, 0, 0, -5, 0, -5, -5};
        for (int log = 0; log < 4; log++) {
            for (int what = 0; what < of.length; what++) {
                S.due("of " + what, x.of(log, what), of[what]);
            }
            S.due("no RECORD", x.record(log, 0, 0), NO);
            S.due("whose", x.of(log, 7), -5);
        }
        for (int m = 0; m < 4; m++) {
            for (int what = 0; what < 3; what++) {
                S.due("member " + what, x.member(m, what), 0);
            }
        }
        int[] told = {0, 5, 100, 50, 0, 0};
        for (int what = 0; what < told.length; what++) {
            S.due("told " + what, x.told(what), told[what]);
        }
        for (int what = 2; what < 5; what++) {
            S.due("count " + what, x.count(what), 0);
        }
        S.due("no image", x.undo(), STATE);
        S.due("KEPT", x.kept(0, 0), NO);
        S.due("looked", x.looked(), -5);
        S.due("ends", x.ends(0), 0);
        Scene.rich();
        S.due("another object's are its own", new KeyedLogs().count(0), 0);
        S.due("another object's are its own", new KeyedLogs().undo(), STATE);
    }

    private static void put() {
        S.promise(2);
        S.says("A VALUE comes to a LOG: its OFFSET.");
        KeyedLogs x = new KeyedLogs();
        for (int n = 0; n < 200; n++) {
            S.due("number " + n, x.put(0, n % 26, n, 1, 1 + n % 9), n);
        }
        S.due("another LOG's first", x.put(3, 25, 1, 1, 9), 0);
        S.due("it is no TOMB", x.record(0, 199, 3), 0);
        S.says("NONE: log, key;");
        eachRefused("log", Scene.NO_LOG, (y, log) -> y.put(log, 0, 1, 1, 1), NONE);
        eachRefused("key", Scene.NO_KEY, (y, key) -> y.put(0, key, 1, 1, 1), NONE);
        S.says("BAD: size;");
        eachRefused("size", but(0, 10), (y, size) -> y.put(0, 0, 1, 1, size), BAD);
        eachRefused("size", new int[] {-1, 11}, (y, size) -> y.put(0, 0, 1, 1, size), BAD);
        S.due("the least SIZE", Scene.rich().put(0, 0, 1, 1, 1), 11);
        S.due("the greatest SIZE", Scene.rich().put(0, 0, 1, 1, 9), 11);
        S.says("FULL: 200 came.");
        S.due("199 came", Scene.filled(199, 1).put(0, 0, 1, 1, 1), 199);
        S.refused("200 came", () -> Scene.filled(200, 1), y -> y.put(0, 25, 1, 1, 9), FULL);
        S.due("again", x.put(0, 0, 1, 1, 1), FULL);
        S.due("another LOG's next", x.put(3, 0, 1, 1, 1), 1);
    }

    private static void tomb() {
        S.promise(3);
        S.says("A TOMB comes to a LOG: its OFFSET.");
        KeyedLogs x = new KeyedLogs();
        for (int n = 0; n < 200; n++) {
            S.due("number " + n, x.tomb(1, n % 26, 1 + n % 9), n);
        }
        S.due("another LOG's first", x.tomb(0, 0, 1), 0);
        S.due("it is one", x.record(1, 199, 3), 1);
        S.says("NONE; BAD; FULL.");
        eachRefused("log", Scene.NO_LOG, (y, log) -> y.tomb(log, 0, 1), NONE);
        eachRefused("key", Scene.NO_KEY, (y, key) -> y.tomb(0, key, 1), NONE);
        eachRefused("size", but(0, 10), (y, size) -> y.tomb(0, 0, size), BAD);
        S.due("the least SIZE", Scene.rich().tomb(0, 0, 1), 11);
        S.due("the greatest SIZE", Scene.rich().tomb(0, 25, 9), 11);
        S.due("199 came", Scene.filled(199, 1).tomb(0, 0, 1), 199);
        S.refused("200 came", () -> Scene.filled(200, 1), y -> y.tomb(0, 0, 1), FULL);
        S.due("again", x.tomb(1, 0, 1), FULL);
        S.due("another LOG's next", x.tomb(0, 0, 1), 1);
    }

    private static KeyedLogs at(int time) {
        return Scene.later(new KeyedLogs(), time);
    }

    private static void tick() {
        S.promise(4);
        S.says("TIME is n (0 .. 99) more: TIME.");
        KeyedLogs x = new KeyedLogs();
        S.due("0 more", x.tick(0), 0);
        S.due("99 more", x.tick(99), 99);
        S.due("1 more", x.tick(1), 100);
        S.due("told", x.told(0), 100);
        S.says("BAD;");
        eachRefused("n", but(-1, 100), (y, n) -> y.tick(n), BAD);
        S.says("STATE: it would be above 9999.");
        S.due("9999", at(9998).tick(1), 9999);
        S.due("9999", at(9900).tick(99), 9999);
        S.due("0 more", at(9999).tick(0), 9999);
        S.refused("10000", () -> at(9999), y -> y.tick(1), STATE);
        S.refused("10098", () -> at(9999), y -> y.tick(99), STATE);
        S.refused("10000", () -> at(9901), y -> y.tick(99), STATE);
        KeyedLogs late = at(9990);
        S.due("10 more", late.tick(10), STATE);
        S.due("9 more, behind that", late.tick(9), 9999);
    }

    private static void set() {
        S.promise(5);
        S.says("What 0 GRACE, 1 KEEP, 2 AGE becomes n: what it was.");
        int[] first = {5, 100, 50}, most = {99, 999, 999};
        for (int what = 0; what < 3; what++) {
            KeyedLogs x = new KeyedLogs();
            S.due("the greatest " + what, x.set(what, most[what]), first[what]);
            S.due("the least " + what, x.set(what, 0), most[what]);
            S.due("7 " + what, x.set(what, 7), 0);
            for (int other = 0; other < 3; other++) {
                S.due("told " + other, x.told(other + 1), other == what ? 7 : first[other]);
            }
        }
        S.says("NONE; BAD.");
        eachRefused("what", but(-1, 3), (y, what) -> y.set(what, 7), NONE);
        eachRefused("GRACE", but(-1, 100), (y, n) -> y.set(0, n), BAD);
        eachRefused("KEEP", but(-1, 1000), (y, n) -> y.set(1, n), BAD);
        eachRefused("AGE", but(-1, 1000), (y, n) -> y.set(2, n), BAD);
        KeyedLogs x = new KeyedLogs();
        x.set(0, 100);
        S.due("what it was, behind a refused call", x.set(0, 6), 5);
    }

    private static void compact() {
        S.promise(6);
        S.says("COMPACTED: how many RECORDS went.");
        S.due("an empty LOG", new KeyedLogs().compact(0), 0);
        S.due("none", Scene.of("a1 b1 c1 d1 e1").compact(0), 0);
        S.due("one", Scene.of("a1 b1 c1 d1 a1").compact(0), 1);
        S.due("all but the last", Scene.of("a1 a1 a1 a1").compact(0), 3);
        S.due("the ACTIVE one's stay", Scene.of("a1 a1 a1").compact(0), 0);
        KeyedLogs full = Scene.filled(200, 1);
        S.due("all but 26", full.compact(0), 174);
        S.due("again", full.compact(0), 0);
        KeyedLogs last = Scene.come(new KeyedLogs(), 3, "a1 a1 a1 a1");
        S.due("the last LOG", last.compact(3), 3);
        S.says("NONE.");
        eachRefused("log", Scene.NO_LOG, (y, log) -> y.compact(log), NONE);
    }

    private static void retain() {
        S.promise(7);
        S.says("RETAINED: how many RECORDS went.");
        S.due("an empty LOG", new KeyedLogs().retain(0), 0);
        S.due("none", Scene.of("a1 b1 c1 d1 e1").retain(0), 0);
        KeyedLogs x = Scene.come(new KeyedLogs(), 3, "a1 b1 c1 d1 e1");
        x.set(1, 4);
        S.due("one SEGMENT's", x.retain(3), 4);
        S.due("again", x.retain(3), 0);
        KeyedLogs full = Scene.filled(200, 1);
        full.set(1, 0);
        S.due("all", full.retain(0), 200);
        S.due("again", full.retain(0), 0);
        KeyedLogs holes = Scene.of("a1 b1 c1 d1 a1");
        holes.compact(0);
        holes.set(1, 0);
        S.due("no HOLES", holes.retain(0), 3);
        S.says("NONE.");
        eachRefused("log", Scene.NO_LOG, (y, log) -> y.retain(log), NONE);
    }

    private static void feed() {
        S.promise(8);
        S.says("A sign (0 .. 127) comes behind THE TEXT's: how many it has.");
        KeyedLogs x = new KeyedLogs();
        S.due("the least", x.feed(0), 1);
        S.due("the greatest", x.feed(127), 2);
        for (int n = 3; n <= 100; n++) {
            S.due("number " + n, x.feed('a'), n);
        }
        KeyedLogs order = Scene.say(new KeyedLogs(), "2c");
        order.feed('-');
        S.due("behind the others", order.read(), 1);
        S.due("behind the others", order.record(2, 0, 0), 2);
        S.says("BAD;");
        eachRefused("sign", but(-1, 128), (y, sign) -> y.feed(sign), BAD);
        eachRefused("sign", new int[] {255, 256 + '='}, (y, sign) -> y.feed(sign), BAD);
        KeyedLogs bad = Scene.say(new KeyedLogs(), "0a");
        bad.feed(128);
        S.due("it has as many as ahead", bad.feed('-'), 3);
        S.due("it is not among them", bad.read(), 1);
        S.says("FULL.");
        S.refused("the 101st", () -> Scene.say(new KeyedLogs(), "0a-;".repeat(25)), y -> y.feed(0), FULL);
        S.due("the 101st", x.feed('a'), FULL);
        S.due("how many", x.count(4), 100);
        x.read();
        S.due("there is room then", x.feed('a'), 1);
    }

    private static void read() {
        S.promise(9);
        S.says("THE TEXT, which is empty then, are RECORDS: how many came; -10 less the FAULT.");
        S.due("an empty TEXT", new KeyedLogs().read(), -10);
        KeyedLogs x = Scene.say(new KeyedLogs(), "0a=1;3b-");
        S.due("two", x.read(), 2);
        S.due("it is empty", x.count(4), 0);
        S.due("it is empty", x.read(), -10);
        Scene.say(x, "0a=1;3b-?");
        S.due("a FAULT at 8", x.read(), -18);
        S.due("none came", x.count(0), 2);
        S.due("it is empty by a FAULT, too", x.feed('0'), 1);
        S.due("99 bytes", Scene.reading("0a=1234;".repeat(11) + "0a=-1234/12"), 12);
        Scene.say(x, "a=12");
        S.due("what came behind it", x.read(), 1);
        Scene.say(x, "0a=1");
        S.due("no sign of an earlier one", x.read(), 1);
        S.due("no sign of an earlier one", x.value(0, 0), Scene.bits(1f));
        KeyedLogs full = Scene.say(Scene.filled(200, 1), "0a-;0b=3");
        S.due("none came", full.read(), 0);
        S.due("it is empty then, too", full.count(4), 0);
        S.changesNothing("a FAULT leaves all but THE TEXT", CallsEdgesTest::withoutText, y -> {
            Scene.say(y, "0a=1;1b-;2c=3/");
            return y.read();
        });
    }

    private static KeyedLogs withoutText() {
        KeyedLogs x = Scene.rich();
        x.read();
        return x;
    }

    private static void of() {
        S.promise(10);
        S.says("Of a LOG what 0 RECORDS, 1 START, 2 END, 3 SEGMENTS, 4 SIZES, together, 5 HOLES, 6 how many MAP "
                + "has, 7 whose it is (-5), 8 DONE, 9 the least OFFSET of a RECORD (-5), 10 the greatest (-5).");
        KeyedLogs x = Scene.come(new KeyedLogs(), 3, "a2 b3 c4 a5 b-1 c1");
        answers(x, 3, 6, 0, 6, 2, 16, 0, 2, -5, 0, 0, 5);
        x.join(2);
        x.seek(3, 6);
        x.compact(3);
        // left: 3 of the CLOSED one, 4 and 5
        answers(x, 3, 3, 0, 6, 2, 7, 3, 2, 2, 6, 3, 5);
        x.set(1, 6);
        x.retain(3);
        answers(x, 3, 2, 4, 6, 1, 2, 0, 1, 2, 6, 4, 5);
        answers(x, 0, 0, 0, 0, 1, 0, 0, 0, 2, 0, -5, -5);
        x.leave(2);
        S.due("of none", x.of(3, 7), -5);
        KeyedLogs all = Scene.of("a1 b1 c1 d1");
        all.set(1, 0);
        all.retain(0);
        answers(all, 0, 0, 4, 4, 1, 0, 0, 0, -5, 0, -5, -5);
        KeyedLogs full = Scene.filled(200, 9);
        answers(full, 0, 200, 0, 200, 67, 1800, 0, 26, -5, 0, 0, 199);
        S.says("NONE.");
        eachRefused("log", Scene.NO_LOG, (y, log) -> y.of(log, 0), NONE);
        eachRefused("what", but(-1, 11), (y, what) -> y.of(0, what), NONE);
    }

    private static void answers(KeyedLogs x, int log, int... due) {
        for (int what = 0; what < 11; what++) {
            S.due("what " + what, x.of(log, what), due[what]);
        }
    }

    private static void record() {
        S.promise(11);
        S.says("Of the RECORD at an OFFSET of a LOG what 0 KEY, 1 TIME, 2 SIZE, 3 whether it is a TOMB, 4 VALUE "
                + "(bits; NO: a TOMB), 5 the number of its SEGMENT (0 the first).");
        KeyedLogs x = Scene.later(new KeyedLogs(), 9999);
        x.put(0, 25, -3, 2, 9);
        x.tomb(0, 0, 1);
        long[] value = {25, 9999, 9, 0, Scene.bits(-1.5f), 0};
        long[] tomb = {0, 9999, 1, 1, NO, 0};
        for (int what = 0; what < 6; what++) {
            S.due("a VALUE " + what, x.record(0, 0, what), value[what]);
            S.due("a TOMB " + what, x.record(0, 1, what), tomb[what]);
        }
        KeyedLogs y = Scene.of("a9 b9 c9 d9 e9 f9 g1");
        int[] segment = {0, 0, 0, 1, 1, 1, 2};
        for (int o = 0; o < segment.length; o++) {
            S.due("SEGMENT of " + o, y.record(0, o, 5), segment[o]);
        }
        y.set(1, 54);
        y.retain(0);
        S.due("the first then", y.record(0, 3, 5), 0);
        S.due("the second then", y.record(0, 6, 5), 1);
        KeyedLogs full = Scene.filled(200, 1);
        S.due("the last OFFSET", full.record(0, 199, 5), 49);
        S.says("NO: there is none such.");
        eachRefused("log", Scene.NO_LOG, (z, log) -> z.record(log, 0, 0), NO);
        eachRefused("offset", but(-1, 11), (z, o) -> z.record(0, o, 0), NO);
        eachRefused("what", but(-1, 6), (z, what) -> z.record(0, 2, what), NO);
        for (int what = 0; what < 6; what++) {
            S.due("it went, COMPACTED", Scene.rich().record(0, 0, what), NO);
            S.due("it went, RETAINED", y.record(0, 2, what), NO);
            S.due("an empty LOG", new KeyedLogs().record(0, 0, what), NO);
            S.due("at END", y.record(0, 7, what), NO);
            S.due("at END, full", full.record(0, 200, what), NO);
        }
    }

    private static void segment() {
        S.promise(12);
        S.says("Of SEGMENT k of a LOG what 0 BASE, 1 RECORDS, 2 SIZES, 3 whether CLOSED.");
        KeyedLogs x = Scene.come(new KeyedLogs(), 3, "a9 b9 c2 d1 e1 f1 g1 h5");
        int[][] due = {{0, 3, 20, 1}, {3, 4, 4, 1}, {7, 1, 5, 0}};
        for (int k = 0; k < 3; k++) {
            for (int what = 0; what < 4; what++) {
                S.due("SEGMENT " + k + " " + what, x.segment(3, k, what), due[k][what]);
            }
        }
        KeyedLogs empty = Scene.of("a1 a1 a1 a1 a1");
        empty.compact(0);
        int[] none = {0, 0, 0, 1};
        for (int what = 0; what < 4; what++) {
            S.due("an empty one " + what, empty.segment(0, 0, what), none[what]);
            S.due("an empty LOG's " + what, new KeyedLogs().segment(0, 0, what), 0);
        }
        KeyedLogs full = Scene.filled(200, 1);
        int[] last = {200, 0, 0, 0};
        for (int what = 0; what < 4; what++) {
            S.due("the last of a full LOG " + what, full.segment(0, 50, what), last[what]);
            S.due("no more", full.segment(0, 51, what), NONE);
        }
        S.due("the one ahead of it", full.segment(0, 49, 0), 196);
        S.says("NONE.");
        eachRefused("log", Scene.NO_LOG, (y, log) -> y.segment(log, 0, 0), NONE);
        eachRefused("k", but(-1, 3), (y, k) -> y.segment(1, k, 0), NONE);
        eachRefused("what", but(-1, 4), (y, what) -> y.segment(0, 0, what), NONE);
        S.due("the last", Scene.rich().segment(1, 2, 0), 8);
    }

    // ---- what a log comes to

    private static void value() {
        S.promise(13);
        S.says("VALUE of a KEY in MAP (bits).");
        KeyedLogs x = Scene.come(new KeyedLogs(), 3, "a1 z1 a1 b1 b-1");
        S.due("the first KEY", x.value(3, 0), Scene.bits(3f));
        S.due("the last KEY", x.value(3, 25), Scene.bits(2f));
        S.says("NO: it isn't there.");
        S.due("a TOMB", x.value(3, 1), NO);
        S.due("it never came", x.value(3, 2), NO);
        S.due("an empty LOG", x.value(0, 0), NO);
        eachRefused("log", Scene.NO_LOG, (y, log) -> y.value(log, 0), NO);
        eachRefused("key", Scene.NO_KEY, (y, key) -> y.value(0, key), NO);
    }

    private static void map() {
        S.promise(14);
        S.says("OF MAP: what 0 how many, 1 SUM, 2 LEAST, 3 GREATEST (bits), 4 MEAN (doubleToLongBits).");
        KeyedLogs x = Scene.come(new KeyedLogs(), 3, "c1 b1 a1 d1 d-1");
        long[] due = {3, Scene.bits(6f), Scene.bits(1f), Scene.bits(3f), Scene.wide(2.0)};
        for (int what = 0; what < 5; what++) {
            S.due("what " + what, x.map(3, what), due[what]);
        }
        S.says("NO: log, what, none (what 2 .. 4).");
        eachRefused("log", Scene.NO_LOG, (y, log) -> y.map(log, 0), NO);
        eachRefused("what", but(-1, 5), (y, what) -> y.map(0, what), NO);
        long[] none = {0, 0, NO, NO, NO};
        for (int what = 0; what < 5; what++) {
            S.due("none, what " + what, new KeyedLogs().map(0, what), none[what]);
            S.due("TOMBS alone, what " + what, Scene.of("a1 a-1").map(0, what), none[what]);
        }
    }

    private static void replay() {
        S.promise(15);
        S.says("REPLAY up to an OFFSET (0 and more): key -1: how many KEYS; else VALUE of a KEY (bits; NO: it isn't "
                + "there).");
        KeyedLogs x = Scene.come(new KeyedLogs(), 3, "a1 z1 a-1");
        int[] many = {0, 1, 2, 1, 1};
        for (int offset = 0; offset < many.length; offset++) {
            S.due("KEYS up to " + offset, x.replay(3, offset, -1), many[offset]);
        }
        S.due("behind 200", x.replay(3, 201, -1), 1);
        S.due("as far as can be", x.replay(3, MAX, -1), 1);
        S.due("the first KEY", x.replay(3, 2, 0), Scene.bits(1f));
        S.due("it isn't there any more", x.replay(3, 3, 0), NO);
        S.due("it isn't there yet", x.replay(3, 0, 0), NO);
        S.due("the last KEY", x.replay(3, 2, 25), Scene.bits(2f));
        S.due("as far as can be", x.replay(3, MAX, 25), Scene.bits(2f));
        KeyedLogs full = Scene.filled(200, 1);
        S.due("END of a full LOG", full.replay(0, 200, 17), Scene.bits(199f));
        S.due("behind END of a full LOG", full.replay(0, 201, 17), Scene.bits(199f));
        S.due("its last is not in it", full.replay(0, 199, 17), Scene.bits(173f));
        S.due("behind END of a full LOG", full.replay(0, MAX, -1), 26);
        KeyedLogs undone = Scene.of("a1");
        undone.image();
        Scene.come(undone, 0, "b1 a-1");
        undone.undo();
        S.due("what was undone is not behind END", undone.replay(0, MAX, -1), 1);
        S.due("what was undone is not behind END", undone.replay(0, MAX, 0), Scene.bits(1f));
        S.says("NO: log, key, offset below 0.");
        eachRefused("log", Scene.NO_LOG, (y, log) -> y.replay(log, 5, -1), NO);
        eachRefused("key", but(-2, 26), (y, key) -> y.replay(0, 5, key), NO);
        eachRefused("offset", new int[] {-1, MIN}, (y, offset) -> y.replay(0, offset, -1), NO);
        eachRefused("offset", new int[] {-1, MIN}, (y, offset) -> y.replay(0, offset, 0), NO);
    }

    private static void near() {
        S.promise(16);
        S.says("The nearest OFFSET: how 0 AT or BEFORE, 1 AT or BEHIND (-5).");
        KeyedLogs x = Scene.come(new KeyedLogs(), 3, "c1 a1 a1 b1 a1");
        x.compact(3);
        // left: 0, 3, 4
        S.due("AT", x.near(3, 3, 0), 3);
        S.due("AT", x.near(3, 3, 1), 3);
        S.due("BEFORE", x.near(3, 2, 0), 0);
        S.due("BEHIND", x.near(3, 1, 1), 3);
        S.due("none BEFORE", x.near(3, -1, 0), -5);
        S.due("none BEHIND", x.near(3, 5, 1), -5);
        S.due("as far as can be", x.near(3, MAX, 0), 4);
        S.due("as far as can be", x.near(3, MIN, 1), 0);
        S.due("none BEFORE", x.near(3, MIN, 0), -5);
        S.due("none BEHIND", x.near(3, MAX, 1), -5);
        KeyedLogs full = Scene.filled(200, 1);
        S.due("at END of a full LOG", full.near(0, 200, 0), 199);
        S.due("at END of a full LOG", full.near(0, 200, 1), -5);
        S.due("its last", full.near(0, 199, 1), 199);
        S.says("NONE: log, how.");
        eachRefused("log", Scene.NO_LOG, (y, log) -> y.near(log, 0, 0), NONE);
        eachRefused("how", but(-1, 2), (y, how) -> y.near(0, 0, how), NONE);
    }

    private static void oldest() {
        S.promise(17);
        S.says("OLDEST k: its OFFSET (-5).");
        KeyedLogs x = Scene.come(new KeyedLogs(), 3, "a1 b2 c2");
        int[] due = {1, 2, 0, -5, -5};
        for (int k = 0; k < due.length; k++) {
            S.due("number " + k, x.oldest(3, k), due[k]);
        }
        S.due("as far as can be", x.oldest(3, MAX), -5);
        S.due("an empty LOG", x.oldest(0, 0), -5);
        KeyedLogs full = Scene.filled(200, 9);
        S.due("the last of 200", full.oldest(0, 199), 199);
        S.due("no more", full.oldest(0, 200), -5);
        S.says("NONE: log, k is below 0.");
        eachRefused("log", Scene.NO_LOG, (y, log) -> y.oldest(log, 0), NONE);
        eachRefused("k", new int[] {-1, -5, MIN}, (y, k) -> y.oldest(0, k), NONE);
        S.due("below 0 of an empty LOG", x.oldest(0, -1), NONE);
    }

    private static void would() {
        S.promise(18);
        S.says("WOULD GO: what 0 by COMPACTED, 1 by RETAINED.");
        KeyedLogs x = Scene.come(new KeyedLogs(), 3, "a1 b1 c1 d1 a1");
        x.set(1, 4);
        S.due("COMPACTED", x.would(3, 0), 1);
        S.due("RETAINED", x.would(3, 1), 4);
        S.due("it is there all the same", x.of(3, 0), 5);
        S.due("an empty LOG", x.would(0, 0), 0);
        S.due("an empty LOG", x.would(0, 1), 0);
        S.says("NONE.");
        eachRefused("log", Scene.NO_LOG, (y, log) -> y.would(log, 0), NONE);
        eachRefused("log", Scene.NO_LOG, (y, log) -> y.would(log, 1), NONE);
        eachRefused("what", but(-1, 2), (y, what) -> y.would(0, what), NONE);
    }

    private static void need() {
        S.promise(19);
        S.says("NEED (-5).");
        KeyedLogs x = Scene.come(new KeyedLogs(), 3, "a1 b1 c1 d1 e1");
        int[] due = {0, 0, 5, 5, 5, 5, -5};
        for (int n = 0; n < due.length; n++) {
            S.due("n is " + n, x.need(3, n), due[n]);
        }
        S.says("NONE;");
        eachRefused("log", Scene.NO_LOG, (y, log) -> y.need(log, 0), NONE);
        S.says("BAD: n (0 .. 200).");
        S.due("the least", x.need(3, 0), 0);
        S.due("the greatest", x.need(3, 200), -5);
        S.due("the greatest", Scene.filled(200, 1).need(0, 200), 200);
        eachRefused("n", but(-1, 201), (y, n) -> y.need(0, n), BAD);
    }

    // ---- members

    private static void join() {
        S.promise(20);
        S.says("A MEMBER comes IN: MOVES.");
        KeyedLogs x = new KeyedLogs();
        int[] moves = {4, 2, 1, 1};
        for (int m = 0; m < 4; m++) {
            S.due("MEMBER " + m, x.join(m), moves[m]);
            S.due("it is IN", x.member(m, 0), 1);
        }
        S.says("NONE;");
        eachRefused("member", Scene.NO_LOG, (y, m) -> y.join(m), NONE);
        S.says("STATE: it is.");
        eachRefused("member", new int[] {0, 1, 3}, (y, m) -> y.join(m), STATE);
        KeyedLogs again = new KeyedLogs();
        again.join(0);
        again.leave(0);
        S.due("it is not any more", again.join(0), 4);
        S.due("it is", again.join(0), STATE);
    }

    private static void leave() {
        S.promise(21);
        S.says("A MEMBER goes: MOVES.");
        KeyedLogs x = new KeyedLogs();
        for (int m = 0; m < 4; m++) {
            x.join(m);
        }
        // whose: 0312, then 1312, 2332, 3333
        int[] moves = {1, 2, 2, 4};
        for (int m = 0; m < 4; m++) {
            S.due("MEMBER " + m, x.leave(m), moves[m]);
            S.due("it is not IN", x.member(m, 0), 0);
            S.due("it has no LOGS", x.member(m, 1), 0);
        }
        S.alike("of none", Scene.owners(x), "----");
        S.says("NONE;");
        eachRefused("member", Scene.NO_LOG, (y, m) -> y.leave(m), NONE);
        S.says("STATE: it isn't IN.");
        eachRefused("member", new int[] {2}, (y, m) -> y.leave(m), STATE);
        for (int m = 0; m < 4; m++) {
            S.due("none is IN", x.leave(m), STATE);
        }
        S.due("behind that", x.join(3), 4);
    }

    private static void poll() {
        S.promise(22);
        S.says("POLLED: 1000 times the LOG, and the OFFSET (-5: there is none).");
        KeyedLogs x = Scene.come(Scene.filled(200, 1), 3, "a1 b1");
        x.join(0);
        S.due("the first of all", x.poll(0), 0);
        x.seek(0, 199);
        S.due("the last of LOG 0", x.poll(0), 199);
        S.due("the first of LOG 3", x.poll(0), 3000);
        S.due("the second", x.poll(0), 3001);
        S.due("none is left", x.poll(0), -5);
        S.due("READ", x.told(4), 4);
        KeyedLogs last = new KeyedLogs();
        for (int n = 0; n < 200; n++) {
            last.put(3, 0, n, 1, 1);
        }
        last.join(3);
        last.seek(3, 199);
        S.due("the last of LOG 3", last.poll(3), 3199);
        S.due("DONE", last.of(3, 8), 200);
        S.changesNothing("none there", () -> joined(2), y -> y.poll(2));
        S.says("NONE;");
        eachRefused("member", Scene.NO_LOG, (y, m) -> y.poll(m), NONE);
        S.says("STATE: it isn't IN.");
        eachRefused("member", new int[] {2}, (y, m) -> y.poll(m), STATE);
        S.due("nobody is", Scene.of("a1").poll(0), STATE);
    }

    private static KeyedLogs joined(int member) {
        KeyedLogs x = new KeyedLogs();
        x.join(member);
        return x;
    }

    private static void seek() {
        S.promise(23);
        S.says("DONE of a LOG becomes n (0 .. END): what it was.");
        KeyedLogs x = Scene.come(new KeyedLogs(), 3, "a1 b1 c1 d1 e1");
        S.due("END", x.seek(3, 5), 0);
        S.due("0", x.seek(3, 0), 5);
        S.due("3", x.seek(3, 3), 0);
        S.due("DONE", x.of(3, 8), 3);
        S.due("another LOG's", x.of(0, 8), 0);
        S.due("an empty LOG", x.seek(0, 0), 0);
        x.set(1, 0);
        x.retain(3);
        S.due("below START", x.seek(3, 1), 3);
        KeyedLogs full = Scene.filled(200, 1);
        S.due("END of a full LOG", full.seek(0, 200), 0);
        S.due("behind it", full.seek(0, 201), BAD);
        S.due("it stays", full.of(0, 8), 200);
        S.says("NONE;");
        eachRefused("log", Scene.NO_LOG, (y, log) -> y.seek(log, 0), NONE);
        S.says("BAD.");
        eachRefused("n", but(-1, 12), (y, n) -> y.seek(0, n), BAD);
        S.due("END of LOG 0", Scene.rich().seek(0, 11), 3);
        S.due("an empty LOG", new KeyedLogs().seek(0, 1), BAD);
    }

    private static void member() {
        S.promise(24);
        S.says("Of a MEMBER what 0 whether IN, 1 its LOGS (bits), 2 LAG.");
        KeyedLogs x = Scene.come(Scene.of("a1 b1"), 3, "a1");
        int[] none = {0, 0, 0};
        int[] all = {1, 0b1111, 3};
        for (int what = 0; what < 3; what++) {
            S.due("not IN " + what, x.member(3, what), none[what]);
        }
        x.join(3);
        for (int what = 0; what < 3; what++) {
            S.due("IN " + what, x.member(3, what), all[what]);
        }
        x.join(0);
        x.poll(3);
        int[] first = {1, 0b1100, 1}, last = {1, 0b0011, 1};
        for (int what = 0; what < 3; what++) {
            S.due("MEMBER 0 " + what, x.member(0, what), first[what]);
            S.due("MEMBER 3 " + what, x.member(3, what), last[what]);
        }
        S.says("NONE.");
        eachRefused("member", Scene.NO_LOG, (y, m) -> y.member(m, 0), NONE);
        eachRefused("what", but(-1, 3), (y, what) -> y.member(0, what), NONE);
    }

    private static void told() {
        S.promise(25);
        S.says("What 0 TIME, 1 GRACE, 2 KEEP, 3 AGE, 4 READ, 5 who is IN (bits).");
        KeyedLogs x = Scene.settings(Scene.later(Scene.of("a1 b1"), 9999), 99, 999, 998);
        x.join(0);
        x.poll(0);
        x.poll(0);
        x.poll(0);
        x.join(3);
        int[] due = {9999, 99, 999, 998, 2, 0b1001};
        for (int what = 0; what < 6; what++) {
            S.due("what " + what, x.told(what), due[what]);
        }
        x.join(1);
        x.join(2);
        S.due("all are IN", x.told(5), 0b1111);
        S.says("NONE.");
        eachRefused("what", but(-1, 6), (y, what) -> y.told(what), NONE);
    }

    // ---- odds, plans, books, rows

    private static void odds() {
        S.promise(26);
        S.says("ODDS; part 0 above, 1 below the line.");
        KeyedLogs x = Scene.come(new KeyedLogs(), 3, "a1 b1 c1 d1");
        S.due("above", x.odds(3, 0), 19);
        S.due("below", x.odds(3, 1), 20);
        S.due("an empty LOG: above", x.odds(0, 0), 1);
        S.due("an empty LOG: below", x.odds(0, 1), 1);
        KeyedLogs never = Scene.filled(200, 9);
        S.due("never: above", never.odds(0, 0), 0);
        S.due("never: below", never.odds(0, 1), 1);
        S.says("NO: log, part.");
        eachRefused("log", Scene.NO_LOG, (y, log) -> y.odds(log, 0), NO);
        eachRefused("part", but(-1, 2), (y, part) -> y.odds(0, part), NO);
    }

    private static KeyedLogs planned(int rows) {
        KeyedLogs x = Scene.rich();
        x.plan(-1, 0);
        for (int i = 0; i < rows; i++) {
            x.plan(2, 1);
        }
        return x;
    }

    private static void plan() {
        S.promise(27);
        S.says("A row comes to the PLAN: how many there are (what -1: it is empty then, 0).");
        KeyedLogs x = new KeyedLogs();
        int[][] rows = {{0, 0}, {0, 3}, {1, 0}, {1, 3}, {2, 0}, {2, 3}, {3, 0}, {3, 99}, {0, 1}, {1, 2}};
        for (int n = 0; n < 10; n++) {
            S.due("row " + n, x.plan(rows[n][0], rows[n][1]), n + 1);
        }
        S.due("empty", x.plan(-1, 0), 0);
        S.due("how many", x.count(2), 0);
        for (int n : new int[] {-1, 4, 100, MIN, MAX}) {
            S.due("empty, whatever n is", planned(10).plan(-1, n), 0);
        }
        S.due("empty again", x.plan(-1, 9), 0);
        S.due("the first", x.plan(3, 99), 1);
        S.says("NONE: what (0 .. 3), log (by 0, 1), member (by 2);");
        eachRefused("what", but(-2, 4), (y, what) -> y.plan(what, 0), NONE);
        eachRefused("log by 0", Scene.NO_LOG, (y, log) -> y.plan(0, log), NONE);
        eachRefused("log by 1", Scene.NO_LOG, (y, log) -> y.plan(1, log), NONE);
        eachRefused("member by 2", Scene.NO_LOG, (y, m) -> y.plan(2, m), NONE);
        S.says("BAD: n (by 3: 0 .. 99);");
        eachRefused("n", but(-1, 100), (y, n) -> y.plan(3, n), BAD);
        S.says("FULL: 10.");
        S.due("the tenth", planned(9).plan(2, 1), 10);
        S.refused("the eleventh", () -> planned(10), y -> y.plan(2, 1), FULL);
        KeyedLogs full = planned(10);
        full.plan(0, 0);
        full.plan(-1, 0);
        S.due("there is room then", full.plan(0, 0), 1);
    }

    private static void ends() {
        S.promise(28);
        S.says("ENDS: what 0 RECORDS, 1 READ.");
        KeyedLogs x = Scene.come(Scene.of("a1 b1 c1 d1 a1"), 3, "a1");
        x.join(0);
        x.poll(0);
        S.due("no PLAN: RECORDS", x.ends(0), 6);
        S.due("no PLAN: READ", x.ends(1), 1);
        x.plan(0, 0);
        x.plan(2, 0);
        S.due("RECORDS", x.ends(0), 5);
        S.due("READ", x.ends(1), 2);
        S.due("again", x.ends(0), 5);
        S.due("again", x.ends(1), 2);
        x.compact(0);
        S.due("by how it is now", x.ends(0), 5);
        x.plan(-1, 0);
        S.due("an empty one: RECORDS", x.ends(0), 5);
        S.due("an empty one: READ", x.ends(1), 1);
        S.says("NONE.");
        eachRefused("what", but(-1, 2), (y, what) -> y.ends(what), NONE);
    }

    private static KeyedLogs booked(int rows) {
        KeyedLogs x = Scene.rich();
        x.book(-1, 0);
        for (int i = 0; i < rows; i++) {
            x.book(i % 4, 0);
        }
        return x;
    }

    private static void book() {
        S.promise(29);
        S.says("A row comes to the BOOK: how many there are (log -1: it is empty then, 0).");
        KeyedLogs x = new KeyedLogs();
        for (int n = 1; n <= 8; n++) {
            S.due("row " + n, x.book(n % 4, n), n);
        }
        S.due("empty", x.book(-1, 0), 0);
        S.due("how many", x.count(3), 0);
        for (int n : new int[] {-1, 201, MIN, MAX}) {
            S.due("empty, whatever start is", booked(8).book(-1, n), 0);
        }
        S.due("empty again", x.book(-1, 9), 0);
        S.due("the first", x.book(3, 200), 1);
        S.says("NONE;");
        eachRefused("log", but(-2, 4), (y, log) -> y.book(log, 0), NONE);
        S.says("BAD: start (0 .. 200);");
        S.due("the least", booked(0).book(0, 0), 1);
        S.due("the greatest", booked(0).book(0, 200), 1);
        eachRefused("start", but(-1, 201), (y, start) -> y.book(0, start), BAD);
        S.says("FULL: 8.");
        S.due("the eighth", booked(7).book(0, 0), 8);
        S.refused("the ninth", () -> booked(8), y -> y.book(0, 1), FULL);
        KeyedLogs full = booked(8);
        full.book(0, 1);
        S.due("it is not among them", full.looked(), -5);
        full.book(-1, 0);
        S.due("there is room then", full.book(0, 0), 1);
    }

    private static void looked() {
        S.promise(30);
        S.says("LOOKED at; -5.");
        KeyedLogs x = Scene.filled(200, 1);
        S.due("no rows", x.looked(), -5);
        x.book(0, 0);
        S.due("as it is", x.looked(), -5);
        x.set(1, 0);
        x.retain(0);
        S.due("START is 200", x.looked(), 0);
        x.book(-1, 0);
        x.book(0, 200);
        S.due("as it is", x.looked(), -5);
        for (int n = 2; n <= 8; n++) {
            x.book(3, n == 8 ? 1 : 0);
        }
        S.due("the last row", x.looked(), 7);
    }

    private static void keep() {
        S.promise(31);
        S.says("KEPT becomes n (0 .. 60) places for VALUES alone (sort 1), any (0); RECORDS of a LOG are put there: "
                + "how many came.");
        S.due("no places, no RECORDS", new KeyedLogs().keep(0, 0, 0), 0);
        S.due("no places, no RECORDS", new KeyedLogs().keep(0, 1, 0), 0);
        S.due("60 places, no RECORDS", new KeyedLogs().keep(3, 1, 60), 0);
        S.due("60 places, 60 RECORDS", Scene.filled(60, 1).keep(0, 1, 60), 60);
        S.due("60 places, 60 RECORDS", Scene.filled(60, 1).keep(0, 0, 60), 60);
        S.due("any", Scene.of("a1 b-1 c1").keep(0, 0, 3), 3);
        S.due("VALUES alone", Scene.of("a1 b1 c1").keep(0, 1, 3), 3);
        KeyedLogs anew = Scene.come(Scene.of("a1 b1 c1"), 3, "z1");
        anew.keep(0, 1, 3);
        S.due("anew", anew.keep(3, 1, 3), 1);
        S.due("anew", anew.kept(0, 1), 25);
        S.due("nothing of what was there", anew.kept(1, 1), NO);
        S.says("NONE: log;");
        eachRefused("log", Scene.NO_LOG, (y, log) -> y.keep(log, 0, 9), NONE);
        S.says("BAD: sort, n above 60;");
        eachRefused("sort", but(-1, 2), (y, sort) -> y.keep(0, sort, 9), BAD);
        eachRefused("n", new int[] {61, MAX}, (y, n) -> y.keep(0, 0, n), BAD);
        eachRefused("n", new int[] {61, MAX}, (y, n) -> y.keep(1, 1, n), BAD);
        S.says("SIZE: n below 0;");
        eachRefused("n", new int[] {-1, MIN}, (y, n) -> y.keep(0, 0, n), SIZE);
        eachRefused("n", new int[] {-1, MIN}, (y, n) -> y.keep(1, 1, n), SIZE);
        keepWithoutPlace();
        keepStored();
    }

    private static void keepWithoutPlace() {
        S.says("PLACE: there is no place more, be it a TOMB or not (those that had one came);");
        KeyedLogs x = Scene.of("a1 b1 c1");
        S.due("two places", x.keep(0, 0, 2), PLACE);
        S.due("the second came", x.kept(1, 0), 1);
        S.due("the third did not", x.kept(2, 0), NO);
        S.due("no place", x.keep(0, 1, 0), PLACE);
        S.due("none came", x.kept(0, 0), NO);
        KeyedLogs tomb = Scene.of("a1 b-1");
        S.due("a TOMB among any", tomb.keep(0, 0, 1), PLACE);
        S.due("a TOMB among VALUES", tomb.keep(0, 1, 1), PLACE);
        S.due("the one ahead came", tomb.kept(0, 0), 0);
        S.due("the TOMB did not", tomb.kept(1, 0), NO);
        S.due("a TOMB at once", Scene.of("a-1").keep(0, 1, 0), PLACE);
        KeyedLogs many = Scene.filled(61, 1);
        S.due("61 RECORDS", many.keep(0, 1, 60), PLACE);
        S.due("the last that came", many.kept(59, 0), 59);
        S.due("no more", many.kept(60, 0), NO);
    }

    private static void keepStored() {
        S.says("STORED: a TOMB among VALUES (those ahead came).");
        KeyedLogs x = Scene.of("a1 b1 c-1 d1");
        S.due("the third", x.keep(0, 1, 3), STORED);
        S.due("those ahead came", x.kept(1, 0), 1);
        S.due("it did not", x.kept(2, 0), NO);
        S.due("nor those behind", x.kept(3, 0), NO);
        S.due("among any it comes", x.keep(0, 0, 4), 4);
        S.due("at once", Scene.of("a-1").keep(0, 1, 1), STORED);
        KeyedLogs last = Scene.come(Scene.filled(59, 1), 0, "a-1");
        S.due("the last of 60", last.keep(0, 1, 60), STORED);
        S.due("those ahead came", last.kept(58, 0), 58);
        S.due("it did not", last.kept(59, 0), NO);
        S.says("By NONE, BAD, SIZE KEPT stays.");
        KeyedLogs stays = Scene.of("a1 b1");
        stays.keep(0, 1, 2);
        int[] answers = {stays.keep(4, 0, 1), stays.keep(1, 2, 1), stays.keep(1, 0, 61), stays.keep(1, 0, -1)};
        int[] due = {NONE, BAD, BAD, SIZE};
        for (int i = 0; i < 4; i++) {
            S.due("answer " + i, answers[i], due[i]);
        }
        S.due("it stays", stays.kept(0, 0), 0);
        S.due("it stays", stays.kept(1, 0), 1);
        stays.keep(0, 1, 1);
        S.due("by PLACE it doesn't", stays.kept(1, 0), NO);
    }

    private static void kept() {
        S.promise(32);
        S.says("Of place k of KEPT what 0 OFFSET, 1 KEY, 2 whether a TOMB, 3 VALUE (bits; NO: a TOMB).");
        KeyedLogs x = Scene.come(new KeyedLogs(), 3, "a1 b1 c1 a1 z-1");
        x.compact(3);
        x.keep(3, 0, 60);
        long[][] due = {{1, 1, 0, Scene.bits(2f)}, {2, 2, 0, Scene.bits(3f)}, {3, 0, 0, Scene.bits(4f)},
            {4, 25, 1, NO}};
        for (int k = 0; k < due.length; k++) {
            for (int what = 0; what < 4; what++) {
                S.due("place " + k + " " + what, x.kept(k, what), due[k][what]);
            }
        }
        x.put(3, 1, 99, 1, 1);
        x.compact(3);
        x.set(1, 0);
        x.retain(3);
        S.due("as it was put there", x.kept(0, 3), Scene.bits(2f));
        S.says("NO: nothing there, what.");
        for (int what = 0; what < 4; what++) {
            S.due("a place without a RECORD", x.kept(4, what), NO);
            S.due("the last place", x.kept(59, what), NO);
            S.due("no KEPT at all", new KeyedLogs().kept(0, what), NO);
        }
        eachRefused("k", but(-1, 7), (y, k) -> y.kept(k, 0), NO);
        eachRefused("k", new int[] {59, 60}, (y, k) -> y.kept(k, 0), NO);
        eachRefused("what", but(-1, 4), (y, what) -> y.kept(0, what), NO);
    }

    // ---- judging, the image, tapes

    private static void judge() {
        S.promise(33);
        S.says("JUDGED from place i of a TAPE on.");
        KeyedLogs x = Scene.come(new KeyedLogs(), 3, "a1 b1");
        x.tape(5, 1, 60);
        x.item(5, 59, 1);
        S.due("0, 0", x.judge(3, 5, 0), 1);
        S.due("0, 1", x.judge(3, 5, 58), -5);
        S.due("1", x.judge(3, 5, 59), 0);
        S.due("behind the last", x.judge(3, 5, 60), 100);
        x.item(5, 59, 0);
        S.due("0, then the row ends", x.judge(3, 5, 59), 101);
        S.due("as far as can be", x.judge(3, 5, MAX), 100);
        S.due("below 0", x.judge(3, 5, -1), 100);
        S.due("below 0", x.judge(3, 5, MIN), 100);
        x.item(5, 58, 65536);
        x.item(5, 59, 65537);
        S.due("as shorts", x.judge(3, 5, 58), -5);
        S.says("NONE: log, tape;");
        eachRefused("log", Scene.NO_LOG, (y, log) -> y.judge(log, 0, 0), NONE);
        eachRefused("tape", Scene.NO_TAPE, (y, tape) -> y.judge(0, tape, 0), NONE);
        S.says("CAST: it is no row of shorts.");
        for (int sort = 0; sort < 5; sort++) {
            KeyedLogs y = Scene.of("a1");
            y.tape(0, sort, 3);
            S.due("sort " + sort, y.judge(0, 0, 0), sort == 1 ? -5 : CAST);
            S.due("sort " + sort + ", below 0", y.judge(0, 0, -1), sort == 1 ? 100 : CAST);
            S.due("sort " + sort + ", no RECORDS", y.judge(1, 0, 0), sort == 1 ? -5 : CAST);
            y.tape(0, sort, 0);
            S.due("sort " + sort + ", none of them", y.judge(0, 0, 0), sort == 1 ? 100 : CAST);
            y.tape(0, -1, 0);
            S.due("nothing is no other sort", y.judge(0, 0, 0), 100);
        }
    }

    private static void image() {
        S.promise(34);
        S.says("THE IMAGE is taken: RECORDS of all LOGS.");
        KeyedLogs x = new KeyedLogs();
        S.due("none", x.image(), 0);
        for (int log = 0; log < 4; log++) {
            Scene.come(x, log, "a1 b1");
        }
        S.due("of all", x.image(), 8);
        x.put(0, 0, 1, 1, 1);
        S.due("anew", x.image(), 9);
        x.put(0, 0, 1, 1, 1);
        S.due("the newest counts", x.undo(), 9);
        KeyedLogs full = Scene.filled(200, 1);
        S.due("a full LOG", full.image(), 200);
        KeyedLogs holes = Scene.of("a1 a1 a1 a1 a1");
        holes.compact(0);
        S.due("those that are left", holes.image(), 1);
        KeyedLogs taken = Scene.rich();
        int many = taken.count(0);
        S.due("taken", taken.image(), many);
        S.changesNothing("it changes nothing but THE IMAGE", CallsEdgesTest::imaged, y -> y.image());
    }

    private static KeyedLogs imaged() {
        KeyedLogs x = Scene.rich();
        x.image();
        return x;
    }

    private static void undo() {
        S.promise(35);
        S.says("All is as THE IMAGE: RECORDS of all LOGS.");
        KeyedLogs x = Scene.of("a1 b1 c1 d1 a1");
        x.image();
        x.compact(0);
        Scene.come(x, 3, "a1 b1");
        S.due("as many as then", x.undo(), 5);
        S.alike("as it was", Scene.picture(x, 0), "0:0,1,2,3 4:4");
        S.alike("as it was", Scene.picture(x, 3), "0:");
        S.due("the OFFSET that comes next", x.put(3, 0, 1, 1, 1), 0);
        S.due("again", x.undo(), 5);
        S.due("again, without a change", x.undo(), 5);
        KeyedLogs full = Scene.filled(200, 1);
        full.image();
        full.set(1, 0);
        full.retain(0);
        S.due("a full LOG", full.undo(), 200);
        S.due("START", full.of(0, 1), 0);
        S.due("SEGMENTS", full.of(0, 3), 51);
        S.due("the last BASE", full.segment(0, 50, 0), 200);
        S.due("it is full", full.put(0, 0, 1, 1, 1), FULL);
        KeyedLogs empty = new KeyedLogs();
        empty.image();
        Scene.come(empty, 0, "a1 b1 c1 d1 e1");
        S.due("to none", empty.undo(), 0);
        S.due("the first OFFSET", empty.put(0, 0, 1, 1, 1), 0);
        S.says("STATE: there is none.");
        S.refused("none was taken", () -> Scene.filled(5, 1), y -> y.undo(), STATE);
        KeyedLogs none = new KeyedLogs();
        S.due("none was taken", none.undo(), STATE);
        none.image();
        S.due("one was taken", none.undo(), 0);
    }

    private static void count() {
        S.promise(36);
        S.says("How many: 0 RECORDS of all LOGS, 1 MEMBERS IN, 2 of the PLAN, 3 of the BOOK, 4 bytes of THE TEXT.");
        int[] rich = {8 + 9 + 2 + 3, 3, 4, 2, 2};
        for (int what = 0; what < 5; what++) {
            S.due("what " + what, Scene.rich().count(what), rich[what]);
            S.due("none, what " + what, new KeyedLogs().count(what), 0);
        }
        KeyedLogs most = new KeyedLogs();
        for (int i = 0; i < 100; i++) {
            most.feed('0');
            most.plan(3, 0);
            most.book(0, 0);
            most.join(i % 4);
        }
        int[] due = {0, 4, 10, 8, 100};
        for (int what = 0; what < 5; what++) {
            S.due("the most, what " + what, most.count(what), due[what]);
        }
        KeyedLogs two = Scene.filled(200, 1);
        for (int i = 0; i < 200; i++) {
            two.tomb(3, 0, 1);
        }
        S.due("of two full LOGS", two.count(0), 400);
        S.says("BAD.");
        eachRefused("what", but(-1, 5), (y, what) -> y.count(what), BAD);
    }

    private static void tape() {
        S.promise(37);
        S.says("A TAPE becomes a row of n (0 .. 60) of a sort, all 0, or holds nothing (sort -1: n does not matter): "
                + "1.");
        for (int sort = 0; sort < 5; sort++) {
            KeyedLogs x = new KeyedLogs();
            S.due("60 of sort " + sort, x.tape(5, sort, 60), 1);
            for (int i = 0; i < 60; i++) {
                x.item(5, i, 1);
            }
            S.due("the last place", x.peek(5, 59), 1);
            S.due("no more", x.peek(5, 60), NO);
            S.due("again", x.tape(5, sort, 60), 1);
            for (int i = 0; i < 60; i++) {
                S.due("all 0", x.peek(5, i), 0);
            }
            S.due("none of sort " + sort, x.tape(5, sort, 0), 1);
            S.due("it is there, without a place", x.item(5, 0, 1), PLACE);
            for (int n : new int[] {0, -1, 61, MIN, MAX}) {
                x.tape(5, sort, 3);
                S.due("n does not matter", x.tape(5, -1, n), 1);
                S.due("it holds nothing", x.item(5, 0, 1), NOTHING);
                S.due("it holds nothing", x.peek(5, 0), NO);
            }
            x.tape(5, sort, 1);
            S.due("0 behind that", x.peek(5, 0), 0);
        }
        S.says("NONE: tape;");
        eachRefused("tape", Scene.NO_TAPE, (y, tape) -> y.tape(tape, 0, 1), NONE);
        eachRefused("tape", Scene.NO_TAPE, (y, tape) -> y.tape(tape, -1, 1), NONE);
        S.says("BAD: sort, n above 60;");
        eachRefused("sort", but(-2, 5), (y, sort) -> y.tape(0, sort, 1), BAD);
        eachRefused("n", new int[] {61, MAX}, (y, n) -> y.tape(0, 1, n), BAD);
        S.says("SIZE.");
        eachRefused("n", new int[] {-1, MIN}, (y, n) -> y.tape(0, 1, n), SIZE);
    }

    private static void item() {
        S.promise(38);
        S.says("Item i of a TAPE becomes v (its lowest bits, as many as an item has; booleans: whether v is not 0): "
                + "1.");
        long[] given = {0, 1, -1, 2, 127, 128, 255, 256, 32767, 32768, 65535, 65536, MAX, 1L << 31, 1L << 32,
            Long.MAX_VALUE, Long.MIN_VALUE, -129, -32769, MIN, MIN - 1L};
        for (long v : given) {
            long[] due = {(byte) v, (short) v, (int) v, v, v != 0 ? 1 : 0};
            for (int sort = 0; sort < 5; sort++) {
                KeyedLogs x = new KeyedLogs();
                x.tape(0, sort, 3);
                S.due("1", x.item(0, 1, v), 1);
                S.due(v + " of sort " + sort, x.peek(0, 1), due[sort]);
                S.due("the one ahead", x.peek(0, 0), 0);
                S.due("the one behind", x.peek(0, 2), 0);
            }
        }
        KeyedLogs x = new KeyedLogs();
        x.tape(5, 3, 60);
        S.due("the first place", x.item(5, 0, 3), 1);
        S.due("the last place", x.item(5, 59, 4), 1);
        S.due("the last place", x.peek(5, 59), 4);
        S.says("NONE;");
        eachRefused("tape", Scene.NO_TAPE, (y, tape) -> y.item(tape, 0, 1), NONE);
        S.says("NOTHING;");
        refused("nothing there", y -> y.item(5, 0, 1), NOTHING);
        S.says("PLACE.");
        eachRefused("i", but(-1, 4), (y, i) -> y.item(0, i, 1), PLACE);
        eachRefused("i", but(-1, 2), (y, i) -> y.item(3, i, 1), PLACE);
        x.tape(0, 0, 0);
        S.due("a row of none", x.item(0, 0, 1), PLACE);
    }

    private static void peek() {
        S.promise(39);
        S.says("Item i of a TAPE.");
        KeyedLogs x = new KeyedLogs();
        x.tape(5, 3, 60);
        x.item(5, 0, -7);
        x.item(5, 59, Long.MAX_VALUE);
        S.due("the first place", x.peek(5, 0), -7);
        S.due("the last place", x.peek(5, 59), Long.MAX_VALUE);
        S.due("one between", x.peek(5, 30), 0);
        S.says("NO: no such TAPE, nothing there, no such place.");
        eachRefused("tape", Scene.NO_TAPE, (y, tape) -> y.peek(tape, 0), NO);
        refused("nothing there", y -> y.peek(5, 0), NO);
        eachRefused("i", but(-1, 4), (y, i) -> y.peek(0, i), NO);
        S.due("behind the last", x.peek(5, 60), NO);
        x.tape(5, 3, 2);
        S.due("a place of a longer one", x.peek(5, 2), NO);
    }

    private static KeyedLogs shifting() {
        KeyedLogs x = new KeyedLogs();
        x.tape(0, 2, 6);
        x.tape(1, 2, 4);
        x.tape(2, 1, 6);
        x.tape(3, 2, 0);
        for (int i = 0; i < 6; i++) {
            x.item(0, i, 10 + i);
            x.item(1, i, 20 + i);
            x.item(2, i, 30 + i);
        }
        return x;
    }

    private static String items(KeyedLogs x, int tape) {
        StringBuilder s = new StringBuilder();
        for (int i = 0; x.peek(tape, i) != NO; i++) {
            s.append(i == 0 ? "" : " ").append(x.peek(tape, i));
        }
        return s.toString();
    }

    private static void shifted(String name, int[] how, String from, String to) {
        KeyedLogs x = shifting();
        S.due(name, x.shift(how[0], how[1], how[2], how[3], how[4]), how[4]);
        S.alike(name, items(x, how[0]), from);
        S.alike(name, items(x, how[2]), to);
    }

    private static void shift() {
        S.promise(40);
        S.says("n items of a TAPE from i on come to another one (or the same) from j on, as they all were before: n.");
        String first = "10 11 12 13 14 15";
        shifted("all of one", new int[] {1, 0, 0, 2, 4}, "20 21 22 23", "10 11 20 21 22 23");
        shifted("all of one", new int[] {0, 2, 1, 0, 4}, first, "12 13 14 15");
        shifted("the last to the last", new int[] {0, 5, 1, 3, 1}, first, "20 21 22 15");
        shifted("none", new int[] {0, 0, 1, 0, 0}, first, "20 21 22 23");
        shifted("none, from the end", new int[] {0, 6, 1, 4, 0}, first, "20 21 22 23");
        shifted("none, to one that has none", new int[] {0, 6, 3, 0, 0}, first, "");
        shifted("the same, on", new int[] {0, 0, 0, 1, 5}, "10 10 11 12 13 14", "10 10 11 12 13 14");
        shifted("the same, back", new int[] {0, 1, 0, 0, 5}, "11 12 13 14 15 15", "11 12 13 14 15 15");
        shifted("the same, to itself", new int[] {0, 0, 0, 0, 6}, first, first);
        S.says("NONE: tapes;");
        eachRefused("tape", Scene.NO_TAPE, (y, tape) -> y.shift(tape, 0, 0, 0, 1), NONE);
        eachRefused("other", Scene.NO_TAPE, (y, other) -> y.shift(0, 0, other, 0, 1), NONE);
        S.says("NOTHING;");
        shiftRefused("from nothing", NOTHING, 5, 0, 0, 0, 1);
        shiftRefused("to nothing", NOTHING, 0, 0, 5, 0, 1);
        shiftRefused("nothing to nothing", NOTHING, 5, 0, 5, 0, 0);
        S.says("CAST: of unlike sorts;");
        shiftRefused("ints to shorts", CAST, 0, 0, 2, 0, 1);
        shiftRefused("shorts to ints", CAST, 2, 0, 0, 0, 1);
        shiftRefused("none of them", CAST, 0, 0, 2, 0, 0);
        for (int sort = 0; sort < 5; sort++) {
            for (int other = 0; other < 5; other++) {
                KeyedLogs x = new KeyedLogs();
                x.tape(0, sort, 1);
                x.tape(1, other, 1);
                S.due("sort " + sort + " to " + other, x.shift(0, 0, 1, 0, 1), sort == other ? 1 : CAST);
            }
        }
        shiftPlaces();
    }

    private static void shiftRefused(String name, int answer, int tape, int i, int other, int j, int n) {
        S.refused(name, CallsEdgesTest::shifting, y -> y.shift(tape, i, other, j, n), answer);
    }

    private static void shiftPlaces() {
        S.says("PLACE: n, i or j is below 0, or beyond either's end.");
        shiftRefused("n below 0", PLACE, 0, 0, 1, 0, -1);
        shiftRefused("n far below 0", PLACE, 0, 0, 1, 0, MIN);
        shiftRefused("i below 0", PLACE, 0, -1, 1, 0, 1);
        shiftRefused("i below 0, none", PLACE, 0, -1, 1, 0, 0);
        shiftRefused("i far below 0", PLACE, 0, MIN, 1, 0, 1);
        shiftRefused("j below 0", PLACE, 0, 0, 1, -1, 1);
        shiftRefused("j below 0, none", PLACE, 0, 0, 1, -1, 0);
        shiftRefused("j far below 0", PLACE, 0, 0, 1, MIN, 1);
        shiftRefused("one more than it has", PLACE, 1, 0, 0, 0, 5);
        shiftRefused("one more than from i on", PLACE, 0, 3, 1, 0, 4);
        shiftRefused("one more than the other has", PLACE, 0, 0, 1, 0, 5);
        shiftRefused("one more than from j on", PLACE, 0, 0, 1, 1, 4);
        shiftRefused("at its end, one", PLACE, 0, 6, 1, 0, 1);
        shiftRefused("behind its end, none", PLACE, 0, 7, 1, 0, 0);
        shiftRefused("at the other's end, one", PLACE, 0, 0, 1, 4, 1);
        shiftRefused("behind the other's end, none", PLACE, 0, 0, 1, 5, 0);
        shiftRefused("the other has none", PLACE, 0, 0, 3, 0, 1);
        shiftRefused("i and n wrap around", PLACE, 0, MAX, 1, 0, MAX);
        shiftRefused("i and n wrap around", PLACE, 0, 1, 1, 0, MAX);
        shiftRefused("j and n wrap around", PLACE, 0, 0, 1, MAX, 1);
        shiftRefused("j and n wrap around", PLACE, 0, 0, 1, 1, MAX);
        shiftRefused("the same, one more", PLACE, 0, 0, 0, 1, 6);
    }
}
