/** The edges that "Terms" names, sentence by sentence, up to where the part begins that is asked. */
public final class TermsEdgesTest {
    private static final Sentences S = new Sentences();
    private static final int NONE = Scene.NONE, BAD = Scene.BAD, FULL = Scene.FULL;
    private static final int MIN = Scene.MIN, MAX = Scene.MAX;
    private static final long NO = Scene.NO;

    public static void main(String[] args) {
        S.part("(float) num", "==== 2 ");
        numbers();
        records();
        segments();
        closing();
        startAndEnd();
        twoHundred();
        laterOnes();
        grace();
        joining();
        holes();
        retainedClosed();
        retainedBySizes();
        retainedEmpty();
        retainedByAge();
        map();
        members();
        sharedOut();
        keepsAndFrees();
        freeLogs();
        moves();
        polled();
        textSigns();
        textEdges();
        blanks();
        fault();
        roomForClauses();
        S.end("TermsEdgesTest");
    }

    // ---- numbers and records

    private static void numbers() {
        S.says("(float) num / (float) den (den 0, too).");
        int[][] rows = {{1, 0, 0x7f800000}, {MAX, 0, 0x7f800000}, {-1, 0, 0xff800000}, {MIN, 0, 0xff800000},
            {0, 0, 0x7fc00000}, {0, 1, 0}, {0, MAX, 0}, {0, -1, 0x80000000}, {0, MIN, 0x80000000},
            {1, 1, 0x3f800000}, {-1, -1, 0x3f800000}, {1, -1, 0xbf800000}, {-1, 1, 0xbf800000},
            {16777216, 1, 0x4b800000}, {16777217, 1, 0x4b800000}, {16777218, 1, 0x4b800001},
            {16777219, 1, 0x4b800002}, {1, 16777217, 0x33800000}, {16777217, 16777216, 0x3f800000},
            {MAX, 1, 0x4f000000}, {MIN, 1, 0xcf000000}, {MIN, -1, 0x4f000000}, {MAX, MIN, 0xbf800000},
            {MIN, MIN, 0x3f800000}, {1, MIN, 0xb0000000}, {1, MAX, 0x30000000}, {-1, MIN, 0x30000000},
            {1, 3, 0x3eaaaaab}, {2, 3, 0x3f2aaaab}, {-7, 4, 0xbfe00000}, {1, 10, 0x3dcccccd}};
        for (int[] row : rows) {
            KeyedLogs x = new KeyedLogs();
            String name = row[0] + " / " + row[1];
            S.due(name + " comes", x.put(0, 0, row[0], row[1], 1), 0);
            S.due(name, x.record(0, 0, 4), row[2]);
            S.due(name + " in MAP", x.value(0, 0), row[2]);
        }
    }

    private static void records() {
        S.says("LOGS 0 .. 3, each with RECORDS that have OFFSETS (0, 1, .. as they come), a KEY (0 a .. 25 z), "
                + "a TIME, a SIZE (1 .. 9), and are a VALUE (a float) or a TOMB.");
        for (int log = 0; log < 4; log++) {
            KeyedLogs x = new KeyedLogs();
            S.due("the least numbers", x.put(log, 0, 1, 1, 1), 0);
            x.tick(3);
            S.due("the greatest", x.tomb(log, 25, 9), 1);
            long[] first = {0, 0, 1, 0, Scene.bits(1f)};
            long[] second = {25, 3, 9, 1, NO};
            for (int what = 0; what < 5; what++) {
                S.due("first " + what, x.record(log, 0, what), first[what]);
                S.due("second " + what, x.record(log, 1, what), second[what]);
            }
            for (int other = 0; other < 4; other++) {
                S.due("in log " + log + ", of " + other, x.of(other, 2), other == log ? 2 : 0);
            }
        }
        KeyedLogs y = Scene.say(new KeyedLogs(), "0a-;0z-");
        y.read();
        S.due("a", y.record(0, 0, 0), 0);
        S.due("z", y.record(0, 1, 0), 25);
        KeyedLogs z = new KeyedLogs();
        z.put(4, 0, 1, 1, 1);
        z.put(0, 26, 1, 1, 1);
        z.put(0, 0, 1, 1, 10);
        S.due("behind refused ones", z.put(0, 0, 1, 1, 9), 0);

        S.says("TIME: 0 at first.");
        KeyedLogs t = new KeyedLogs();
        S.due("told", t.told(0), 0);
        t.put(0, 0, 1, 1, 1);
        S.due("of a RECORD", t.record(0, 0, 1), 0);
        S.due("1 more", t.tick(1), 1);
        t.put(0, 0, 1, 1, 1);
        S.due("of the next", t.record(0, 1, 1), 1);
        S.due("of the first", t.record(0, 0, 1), 0);
    }

    // ---- segments

    private static void segments() {
        S.says("Each LOG is in SEGMENTS, one behind the other (one at first, BASE 0): the last is ACTIVE, the "
                + "others are CLOSED; BASE: the OFFSET that the first RECORD in it had or would have, when it "
                + "was begun.");
        KeyedLogs x = new KeyedLogs();
        for (int log = 0; log < 4; log++) {
            S.due("one at first", x.of(log, 3), 1);
            S.due("BASE 0", x.segment(log, 0, 0), 0);
            S.due("it is ACTIVE", x.segment(log, 0, 3), 0);
            S.due("no other", x.segment(log, 1, 0), NONE);
        }
        x = Scene.of("a1 b1 c1 d1");
        S.alike("the OFFSET it would have", Scene.picture(x, 0), "0:0,1,2,3 4:");
        S.due("the first is CLOSED", x.segment(0, 0, 3), 1);
        S.due("the last is ACTIVE", x.segment(0, 1, 3), 0);
        Scene.come(x, 0, "a1 b1 c1 e1 e1");
        x.compact(0);
        S.alike("BASE stays, though what came first is gone", Scene.picture(x, 0), "0:3,4,5,6 8:8");
        KeyedLogs y = Scene.of("a9 b9 c9 d9 e9 f1 d1");
        y.compact(0);
        S.alike("of a later one, too", Scene.picture(y, 0), "0:0,1,2 3:4,5,6 7:");
    }

    private static void closing() {
        S.says("A RECORD comes into the ACTIVE one; are there 4 RECORDS in it then, or 20 SIZES and more, "
                + "together, it is CLOSED, and a new one is begun.");
        closes("a1 b1 c1", "0:0,1,2");
        closes("a1 b1 c1 d1", "0:0,1,2,3 4:");
        closes("a1 a1 a1 a1 a1", "0:0,1,2,3 4:4");
        closes("a9 b9", "0:0,1");
        closes("a9 b9 c1", "0:0,1,2");
        closes("a9 b9 c2", "0:0,1,2 3:");
        closes("a9 b9 c3", "0:0,1,2 3:");
        closes("a9 b9 c9", "0:0,1,2 3:");
        closes("a5 b5 c5 d4", "0:0,1,2,3 4:");
        closes("a5 b5 c5 d5", "0:0,1,2,3 4:");
        closes("a-9 b-9 c-1", "0:0,1,2");
        closes("a-9 b-9 c-2", "0:0,1,2 3:");
        closes("a-1 b-1 c-1 d-1", "0:0,1,2,3 4:");
        closes("a9 b9 c9 d1 e1 f1", "0:0,1,2 3:3,4,5");
        closes("a9 b9 c9 d9 e9 f1", "0:0,1,2 3:3,4,5");
        closes("a9 b9 c9 d9 e9 f2", "0:0,1,2 3:3,4,5 6:");
        KeyedLogs x = Scene.say(new KeyedLogs(), "0a-;0b=1;0c-");
        x.read();
        S.alike("three that are read", Scene.picture(x, 0), "0:0,1,2");
        Scene.say(x, "0d=1;0e-").read();
        S.alike("a fourth and a fifth", Scene.picture(x, 0), "0:0,1,2,3 4:4");
        KeyedLogs y = Scene.of("a1 b1 c1");
        Scene.come(y, 1, "a1");
        S.alike("by its own RECORDS alone", Scene.picture(y, 1), "0:0");
    }

    private static void closes(String words, String picture) {
        S.alike(words, Scene.picture(Scene.of(words), 0), picture);
    }

    private static void startAndEnd() {
        S.says("START of a LOG: BASE of its first SEGMENT; END: the OFFSET that comes next.");
        KeyedLogs x = new KeyedLogs();
        S.due("START of an empty one", x.of(0, 1), 0);
        S.due("END of an empty one", x.of(0, 2), 0);
        Scene.come(x, 0, "a1 b1 c1 d1 a1");
        x.compact(0);
        S.due("START stays, COMPACTED", x.of(0, 1), 0);
        S.due("END stays, COMPACTED", x.of(0, 2), 5);
        x.set(1, 0);
        x.retain(0);
        S.due("START, RETAINED", x.of(0, 1), 4);
        S.due("END stays, RETAINED", x.of(0, 2), 5);
        Scene.come(x, 0, "a1 a1 a1");
        x.retain(0);
        S.due("no RECORD is left", x.of(0, 0), 0);
        S.due("START is END then", x.of(0, 1), 8);
        S.due("END", x.of(0, 2), 8);
        S.due("it comes next", x.put(0, 0, 1, 1, 1), 8);
    }

    private static void twoHundred() {
        S.says("200 RECORDS may come to a LOG.");
        KeyedLogs x = Scene.filled(199, 1);
        S.due("the last one", x.put(0, 0, 1, 1, 1), 199);
        S.due("END", x.of(0, 2), 200);
        S.due("a new SEGMENT is begun all the same", x.segment(0, 50, 0), 200);
        S.refused("the next VALUE", () -> Scene.filled(200, 1), y -> y.put(0, 0, 1, 1, 1), FULL);
        S.refused("the next TOMB", () -> Scene.filled(200, 9), y -> y.tomb(0, 0, 1), FULL);
        x.compact(0);
        S.due("COMPACTED it has no more room", x.put(0, 0, 1, 1, 1), FULL);
        x.set(1, 0);
        x.retain(0);
        S.due("all are gone", x.of(0, 0), 0);
        S.due("RETAINED it has no more room", x.tomb(0, 0, 1), FULL);
        for (int log = 1; log < 4; log++) {
            S.due("other LOGS have", x.put(log, 0, 1, 1, 1), 0);
        }
        KeyedLogs z = Scene.filled(199, 1);
        z.image();
        z.tomb(0, 0, 1);
        S.due("full", z.put(0, 0, 1, 1, 1), FULL);
        z.undo();
        S.due("as THE IMAGE is it has room", z.put(0, 0, 1, 1, 1), 199);
        S.due("full again", z.put(0, 0, 1, 1, 1), FULL);
    }

    // ---- compacted

    private static void laterOnes() {
        S.says("COMPACTED: of a LOG, as it is ahead, each RECORD in a CLOSED SEGMENT goes, of whose KEY there "
                + "is a later one in the LOG;");
        compacted("a1 b1 c1 d1 a1", 1, "0:1,2,3 4:4");
        compacted("a1 a1 b1 c1", 1, "0:1,2,3 4:");
        compacted("a1 b1 c1 a1", 1, "0:1,2,3 4:");
        compacted("a1 b1 c1 d1 e1 f1 g1 h1", 0, "0:0,1,2,3,4,5,6,7 8:");
        compacted("b1 c1 d1 e1 a1 a1 a1", 0, "0:0,1,2,3 4:4,5,6");
        compacted("a1 a1 a1", 0, "0:0,1,2");
        compacted("a1 a1 a1 a1", 3, "0:3 4:");
        compacted("a1 a1 a1 a1 a1", 4, "0: 4:4");
        compacted("a1 b1 c1 d1 a-1", 1, "0:1,2,3 4:4");
        compacted("a-1 b1 c1 d1 a1", 1, "0:1,2,3 4:4");
        compacted("a-1 a-1 b1 c1", 1, "0:1,2,3 4:");
        compacted("z1 a1 b1 c1 z1", 1, "0:1,2,3 4:4");
        KeyedLogs x = Scene.of("a1 b1 a-1 c1");
        x.set(0, 0);
        S.due("the one ahead of a TOMB that goes, too", x.compact(0), 2);
        S.alike("neither is left", Scene.picture(x, 0), "0:1,3 4:");
        S.due("a is not there", x.value(0, 0), NO);
        KeyedLogs y = Scene.of("a1 b1 c1 d1 a1");
        Scene.come(y, 1, "b1");
        y.compact(1);
        S.alike("no other LOG", Scene.picture(y, 0), "0:0,1,2,3 4:4");
        y.compact(0);
        S.due("again: none goes", y.compact(0), 0);
    }

    private static void compacted(String words, int went, String picture) {
        KeyedLogs x = Scene.of(words);
        S.due(words, x.compact(0), went);
        S.alike(words, Scene.picture(x, 0), picture);
    }

    private static void grace() {
        S.says("each TOMB in a CLOSED SEGMENT that is the last of its KEY in the LOG goes, if TIME less its TIME "
                + "is GRACE or more (0 .. 99; 5 at first).");
        S.due("at first", new KeyedLogs().told(1), 5);
        S.due("5 at first, 4 later", tombGoes(-1, 0, 4), 0);
        S.due("5 at first, 5 later", tombGoes(-1, 0, 5), 1);
        S.due("5 at first, 6 later", tombGoes(-1, 0, 6), 1);
        S.due("0, at once", tombGoes(0, 0, 0), 1);
        S.due("1, at once", tombGoes(1, 0, 0), 0);
        S.due("1, 1 later", tombGoes(1, 0, 1), 1);
        S.due("98, 98 later", tombGoes(98, 0, 98), 1);
        S.due("99, 98 later", tombGoes(99, 0, 98), 0);
        S.due("99, 99 later", tombGoes(99, 0, 99), 1);
        S.due("by its own TIME", tombGoes(5, 40, 4), 0);
        S.due("by its own TIME", tombGoes(5, 40, 5), 1);
        S.due("99 by its own TIME", tombGoes(99, 99, 98), 0);
        S.due("99 by its own TIME", tombGoes(99, 99, 99), 1);
        KeyedLogs active = Scene.of("b1 c1 d1 e1 a-1");
        active.set(0, 0);
        active.tick(99);
        S.due("not in the ACTIVE one", active.compact(0), 0);
        Scene.come(active, 0, "f1 g1 h1");
        S.due("in it once it is CLOSED", active.compact(0), 1);
        KeyedLogs notLast = Scene.of("a-1 b1 c1 d1 a-1");
        S.due("one that is not the last goes whatever GRACE is", notLast.compact(0), 1);
        S.alike("the last stays", Scene.picture(notLast, 0), "0:1,2,3 4:4");
        KeyedLogs value = Scene.of("a1 b1 c1 d1");
        value.set(0, 0);
        value.tick(99);
        S.due("no VALUE", value.compact(0), 0);
        KeyedLogs x = Scene.of("a-1 b1 c1 d1");
        S.due("100 is refused", x.set(0, 100), BAD);
        S.due("-1 is refused", x.set(0, -1), BAD);
        x.tick(4);
        S.due("it is 5 then", x.compact(0), 0);
        x.tick(1);
        S.due("it is 5 then", x.compact(0), 1);
    }

    /** How many go of a CLOSED SEGMENT with a TOMB of that TIME; a GRACE of -1 is not set. */
    private static int tombGoes(int grace, int time, int later) {
        KeyedLogs x = Scene.later(new KeyedLogs(), time);
        x.set(0, grace);
        Scene.come(x, 0, "a-1 b1 c1 d1");
        return Scene.later(x, later).compact(0);
    }

    private static void joining() {
        S.says("Then, from the first on, each CLOSED SEGMENT and the CLOSED one behind it are one (BASE of the "
                + "first) as long as they have 20 SIZES at most, together, and 8 RECORDS at most.");
        compacted("a2 b2 c2 d4 e2 f2 g2 h3", 0, "0:0,1,2,3,4,5,6,7 8:");
        compacted("a2 b2 c2 d4 e2 f2 g2 h4", 0, "0:0,1,2,3,4,5,6,7 8:");
        compacted("a2 b2 c2 d4 e2 f2 g2 h5", 0, "0:0,1,2,3 4:4,5,6,7 8:");
        compacted("a1 b1 c1 d1 e1 f1 g1 h1 i1", 0, "0:0,1,2,3,4,5,6,7 8:8");
        compacted("a1 b1 c1 d1 e1", 0, "0:0,1,2,3 4:4");
        compacted("a1 b1 c1 d1", 0, "0:0,1,2,3 4:");
        // 4 and 4 and, of the third, 1: nine
        compacted("a1 b1 c1 d1 e1 f1 g1 h1 i1 i1 i1 i1", 3, "0:0,1,2,3,4,5,6,7 8:11 12:");
        // 4 and 3 and 1: eight
        compacted("a1 b1 c1 d1 e1 f1 g1 i1 i1 i1 i1 i1", 4, "0:0,1,2,3,4,5,6,11 12:");
        compacted("a1 a1 a1 a1 a1 a1 a1 a1 a1", 8, "0: 8:8");
        compacted("a9 b9 c2 d1 d1 d1 d1 d1", 4, "0:0,1,2 7:7");
        compacted("a9 b9 c3 d1 d1 d1 d1 d1", 4, "0:0,1,2 3: 7:7");
        compacted("d1 d1 d1 d1 a9 b9 c3 d1", 4, "0: 4:4,5,6 7:7");
        compacted("d1 d1 d1 d1 a9 b9 c2 d1", 4, "0:4,5,6 7:7");
        // 10, 10, 10: the first two
        compacted("a2 b2 c2 d4 e2 f2 g2 h4 i2 j2 k2 l4", 0, "0:0,1,2,3,4,5,6,7 8:8,9,10,11 12:");
        // 13, 8, 12: the last two
        compacted("a4 b3 c3 d3 e2 f2 g2 h2 i3 j3 k3 l3", 0, "0:0,1,2,3 4:4,5,6,7,8,9,10,11 12:");
        // 2 and 2 and 2 and 2 RECORDS: all of them
        compacted("a1 b1 z1 z1 c1 d1 z1 z1 e1 f1 z1 z1 g1 h1 z1 z1 z1", 8, "0:0,1,4,5,8,9,12,13 16:16");
        KeyedLogs x = Scene.of("a1 b1 z1 z1 c1 d1 z1 z1 e1 z1");
        x.compact(0);
        S.alike("four are one", Scene.picture(x, 0), "0:0,1,4,5 8:8,9");
        Scene.come(x, 0, "f1 g1 h1 i1 j1 k1");
        S.due("z of the ACTIVE one stays", x.compact(0), 0);
        S.alike("4 and 4, then 4", Scene.picture(x, 0), "0:0,1,4,5,8,9,10,11 12:12,13,14,15 16:");
        KeyedLogs y = Scene.of("a1 b1 c1 z1 d1 e1 z1 z1 z1");
        y.compact(0);
        Scene.come(y, 0, "f1 g1 h1");
        S.due("none goes", y.compact(0), 0);
        S.alike("5 and 4 are not one", Scene.picture(y, 0), "0:0,1,2,4,5 8:8,9,10,11 12:");
        S.due("BASE of the first", y.segment(0, 0, 0), 0);
        S.due("number of the SEGMENT", y.record(0, 5, 5), 0);
        S.due("number of the SEGMENT", y.record(0, 8, 5), 1);
    }

    private static void holes() {
        S.says("HOLES: OFFSETS from START up to END at which no RECORD is.");
        S.due("an empty LOG", new KeyedLogs().of(0, 5), 0);
        KeyedLogs x = Scene.of("a1 b1 c1 d1 a1");
        S.due("none", x.of(0, 5), 0);
        x.compact(0);
        S.due("at START", x.of(0, 5), 1);
        KeyedLogs y = Scene.of("b1 c1 d1 a-1");
        y.set(0, 0);
        y.compact(0);
        S.due("ahead of END", y.of(0, 5), 1);
        y.set(1, 0);
        y.retain(0);
        S.due("none ahead of START", y.of(0, 5), 0);
        KeyedLogs z = Scene.of("a1 a1 a1 a1 a1");
        z.compact(0);
        S.due("a SEGMENT without RECORDS", z.of(0, 5), 4);
        z.retain(0);
        S.due("when it is gone", z.of(0, 5), 0);
    }

    // ---- retained

    private static void retainedClosed() {
        S.says("RETAINED: of a LOG its first SEGMENT goes, as long as it is CLOSED, and");
        KeyedLogs x = Scene.settings(Scene.of("a9 b9 c1"), 5, 0, 0);
        x.tick(99);
        S.due("the ACTIVE one stays", x.retain(0), 0);
        S.alike("all of it", Scene.picture(x, 0), "0:0,1,2");
        KeyedLogs y = Scene.settings(Scene.of("a1 b1 c1 d1 e1 f1 g1 h1 i1"), 5, 0, 0);
        S.due("each CLOSED one", y.retain(0), 8);
        S.alike("the ACTIVE one is left", Scene.picture(y, 0), "8:8");
        S.due("again", y.retain(0), 0);
        KeyedLogs z = Scene.settings(Scene.of("a1 b1 c1 d1"), 5, 0, 0);
        S.due("all RECORDS", z.retain(0), 4);
        S.alike("the ACTIVE one, though it is empty", Scene.picture(z, 0), "4:");
        S.due("an empty LOG", z.retain(1), 0);
        S.alike("an empty LOG", Scene.picture(z, 1), "0:");
    }

    private static void retainedBySizes() {
        S.says("SIZES of the whole LOG, together, are above KEEP (0 .. 999; 100 at first),");
        S.due("at first", new KeyedLogs().told(2), 100);
        KeyedLogs x = Scene.filled(20, 5);
        S.due("100 are not above 100", x.retain(0), 0);
        x.put(0, 20, 1, 1, 1);
        S.due("101 are", x.retain(0), 4);
        S.due("81 are not", x.retain(0), 0);
        S.due("START", x.of(0, 1), 4);
        KeyedLogs y = Scene.filled(10, 5);
        y.set(1, 30);
        S.due("50, then 30", y.retain(0), 4);
        y.set(1, 29);
        S.due("30, then 10", y.retain(0), 4);
        KeyedLogs both = Scene.filled(10, 5);
        both.set(1, 29);
        S.due("50, then 30, then 10", both.retain(0), 8);
        KeyedLogs whole = Scene.of("a1 b1 c1 d1 e9 f9");
        whole.set(1, 22);
        S.due("22, with those of the ACTIVE one", whole.retain(0), 0);
        whole.set(1, 21);
        S.due("22, with those of the ACTIVE one", whole.retain(0), 4);
        KeyedLogs most = Scene.filled(111, 9);
        most.set(1, 999);
        S.due("999 are not above 999", most.retain(0), 0);
        most.put(0, 0, 1, 1, 1);
        S.due("1000 are", most.retain(0), 3);
        KeyedLogs least = Scene.of("a1 b1 c1 d1");
        least.set(1, 3);
        S.due("4 are above 3", least.would(0, 1), 4);
        least.set(1, 4);
        S.due("4 are not above 4", least.would(0, 1), 0);
        least.set(1, 0);
        S.due("above 0", least.retain(0), 4);
        KeyedLogs gone = Scene.of("a5 b5 c5 d5 a5");
        gone.compact(0);
        gone.set(1, 20);
        S.due("a RECORD that went counts no more", gone.retain(0), 0);
        gone.set(1, 19);
        S.due("those that are there do", gone.retain(0), 3);
        KeyedLogs other = Scene.come(Scene.filled(10, 5), 1, "a9 b9 c9 d9");
        other.set(1, 50);
        S.due("other LOGS' SIZES don't count", other.retain(0), 0);
    }

    private static void retainedEmpty() {
        S.says("or it is empty,");
        KeyedLogs x = Scene.of("a1 a1 a1 a1 a1");
        x.compact(0);
        S.alike("an empty one is there", Scene.picture(x, 0), "0: 4:4");
        S.due("no RECORD goes", x.retain(0), 0);
        S.alike("the SEGMENT goes", Scene.picture(x, 0), "4:4");
        KeyedLogs y = Scene.of("a9 b9 c9 d1 d1 d1 d1 d1");
        y.compact(0);
        S.due("the first is not empty", y.retain(0), 0);
        S.alike("the one behind it stays", Scene.picture(y, 0), "0:0,1,2 3: 7:7");
        y.set(1, 27);
        S.due("the first goes", y.retain(0), 3);
        S.alike("then that one", Scene.picture(y, 0), "7:7");
        KeyedLogs z = Scene.of("d1 d1 d1 d1 a9 b9 c9 d1");
        z.compact(0);
        S.due("none goes", z.retain(0), 0);
        S.alike("the empty one alone goes", Scene.picture(z, 0), "4:4,5,6 7:7");
        KeyedLogs w = Scene.settings(Scene.of("a1 a1 a1 a1 a1"), 5, 999, 999);
        w.compact(0);
        w.retain(0);
        S.due("whatever KEEP and AGE are", w.of(0, 1), 4);
    }

    private static void retainedByAge() {
        S.says("or the greatest TIME in it is below TIME less AGE (0 .. 999; 50 at first).");
        S.due("at first", new KeyedLogs().told(3), 50);
        S.due("50 at first, 49 later", oldGoes(-1, 0, 49), 0);
        S.due("50 at first, 50 later", oldGoes(-1, 0, 50), 0);
        S.due("50 at first, 51 later", oldGoes(-1, 0, 51), 4);
        S.due("0, at once", oldGoes(0, 7, 0), 0);
        S.due("0, 1 later", oldGoes(0, 7, 1), 4);
        S.due("1, 1 later", oldGoes(1, 0, 1), 0);
        S.due("1, 2 later", oldGoes(1, 0, 2), 4);
        S.due("999, 999 later", oldGoes(999, 0, 999), 0);
        S.due("999, 1000 later", oldGoes(999, 0, 1000), 4);
        S.due("998, 999 later", oldGoes(998, 0, 999), 4);
        S.due("by its own TIME", oldGoes(50, 30, 50), 0);
        S.due("by its own TIME", oldGoes(50, 30, 51), 4);
        S.due("TIME less AGE is below 0", oldGoes(999, 0, 5), 0);
        KeyedLogs x = Scene.of("a1 b1 c1");
        Scene.come(Scene.later(x, 60), 0, "d1 e1");
        x.set(2, 0);
        S.due("the greatest, not the least", x.retain(0), 0);
        x.tick(1);
        S.due("when that is below", x.retain(0), 4);
        KeyedLogs y = Scene.of("a1 b1 c1");
        Scene.come(Scene.later(y, 60), 0, "d1 d1");
        S.due("TIME 60 is in it", y.retain(0), 0);
        y.compact(0);
        S.due("what went counts no more", y.retain(0), 3);
        KeyedLogs z = Scene.of("a1 b1 c1 d1");
        Scene.come(Scene.later(z, 30), 0, "e1 f1 g1 h1 i1");
        Scene.later(z, 21);
        S.due("the old one alone", z.retain(0), 4);
        Scene.later(z, 29);
        S.due("30 and 50 later", z.retain(0), 0);
        Scene.later(z, 1);
        S.due("30 and 51 later", z.retain(0), 4);
        S.alike("the ACTIVE one may be old", Scene.picture(z, 0), "8:8");
    }

    /** How many go of a CLOSED SEGMENT of that TIME; an AGE of -1 is not set. */
    private static int oldGoes(int age, int time, int later) {
        KeyedLogs x = Scene.later(new KeyedLogs(), time);
        x.set(2, age);
        Scene.come(x, 0, "a1 b1 c1 d1");
        return Scene.later(x, later).retain(0);
    }

    private static void map() {
        S.says("MAP of a LOG: KEYS of which the last RECORD is a VALUE, each with that.");
        KeyedLogs x = Scene.of("a1 a-1 b-1 b1 c1 c1 d-1 z1");
        S.due("a, b, c, d, z", x.of(0, 6), 3);
        S.due("a TOMB is its last", x.value(0, 0), NO);
        S.due("a TOMB was", x.value(0, 1), Scene.bits(4f));
        S.due("the last of two", x.value(0, 2), Scene.bits(6f));
        S.due("a TOMB alone", x.value(0, 3), NO);
        S.due("the last KEY", x.value(0, 25), Scene.bits(8f));
        S.due("another LOG", x.of(1, 6), 0);
        x.set(0, 0);
        x.compact(0);
        S.due("COMPACTED it is the same", x.of(0, 6), 3);
        S.due("COMPACTED it is the same", x.value(0, 2), Scene.bits(6f));
        x.set(1, 0);
        x.retain(0);
        S.due("RETAINED it has what is left", x.of(0, 6), 0);
        KeyedLogs y = Scene.of("a1 b1 c-1 d1 c1 c-1 d1");
        y.set(1, 0);
        y.retain(0);
        S.due("only d is left", y.of(0, 6), 1);
        S.due("only d is left", y.value(0, 3), Scene.bits(7f));
        KeyedLogs z = new KeyedLogs();
        z.put(0, 0, 0, 0, 1);
        S.due("NaN is a VALUE", z.of(0, 6), 1);
        S.due("NaN is a VALUE", z.value(0, 0), 0x7fc00000);
        KeyedLogs all = Scene.filled(26, 1);
        S.due("all KEYS", all.of(0, 6), 26);
    }

    // ---- members

    private static void members() {
        S.says("MEMBERS 0 .. 3 are IN or not (none is, at first).");
        KeyedLogs x = new KeyedLogs();
        for (int m = 0; m < 4; m++) {
            S.due("not IN", x.member(m, 0), 0);
        }
        S.due("who is IN", x.told(5), 0);
        S.due("the least", x.join(0), 4);
        S.due("the greatest", x.join(3), 2);
        S.due("below", x.join(-1), NONE);
        S.due("above", x.join(4), NONE);
        S.due("who is IN", x.told(5), 0b1001);
        S.due("how many", x.count(1), 2);

        S.says("Each LOG is of a MEMBER that is IN, or of none (while none is).");
        KeyedLogs y = new KeyedLogs();
        S.alike("at first", Scene.owners(y), "----");
        y.join(3);
        S.alike("one is IN", Scene.owners(y), "3333");
        y.leave(3);
        S.alike("none is any more", Scene.owners(y), "----");

        S.says("DONE of a LOG: an OFFSET (0 at first).");
        for (int log = 0; log < 4; log++) {
            S.due("at first", new KeyedLogs().of(log, 8), 0);
        }
        KeyedLogs z = Scene.filled(4, 1);
        z.join(0);
        z.poll(0);
        z.join(1);
        z.leave(0);
        S.due("whoever's the LOG is", z.of(0, 8), 1);
        z.set(1, 0);
        z.retain(0);
        S.due("though no such RECORD is there", z.of(0, 8), 1);
    }

    /** Each run of six comings and goings: shares, moves, and that no sharing out needs fewer. */
    private static void sharedOut() {
        S.says("SHARED OUT (whenever one comes IN or goes): LOGS of one that isn't IN are free, as those of none; "
                + "q is 4 by how many are IN (cut), m is 4 less q times so many.");
        for (int run = 0; run < 4096; run++) {
            KeyedLogs x = new KeyedLogs();
            String ahead = Scene.owners(x);
            int in = 0;
            for (int step = 0, rest = run; step < 6; step++, rest /= 4) {
                int m = rest % 4;
                int moves = (in >> m & 1) == 1 ? x.leave(m) : x.join(m);
                in ^= 1 << m;
                String now = Scene.owners(x);
                String name = "run " + run + " step " + step + " " + ahead + " " + now;
                S.that(name + " even", isEven(now, in));
                S.due(name + " moves", moves, unlike(ahead, now));
                S.due(name + " fewest moves", moves, fewestMoves(ahead, in));
                ahead = now;
            }
        }
    }

    private static boolean isEven(String owners, int in) {
        if (in == 0) {
            return owners.equals("----");
        }
        int q = 4 / Integer.bitCount(in), larger = 0, logs = 0;
        for (int m = 0; m < 4; m++) {
            int has = shareOf(owners, m);
            if ((in >> m & 1) == 0 ? has != 0 : has != q && has != q + 1) {
                return false;
            }
            logs += has;
            larger += (in >> m & 1) == 1 && has == q + 1 ? 1 : 0;
        }
        return logs == 4 && larger == 4 - q * Integer.bitCount(in);
    }

    private static int shareOf(String owners, int member) {
        int has = 0;
        for (int log = 0; log < 4; log++) {
            has += owners.charAt(log) == '0' + member ? 1 : 0;
        }
        return has;
    }

    private static int unlike(String a, String b) {
        int n = 0;
        for (int log = 0; log < 4; log++) {
            n += a.charAt(log) != b.charAt(log) ? 1 : 0;
        }
        return n;
    }

    private static int fewestMoves(String ahead, int in) {
        if (in == 0) {
            return unlike(ahead, "----");
        }
        int fewest = 4;
        for (int way = 0; way < 256; way++) {
            String owners = "" + way % 4 + way / 4 % 4 + way / 16 % 4 + way / 64;
            if (isEven(owners, in)) {
                fewest = Math.min(fewest, unlike(ahead, owners));
            }
        }
        return fewest;
    }

    /** Members that come (a digit) and go (the digit again), then whose each LOG is. */
    private static void goes(String members, String owners) {
        KeyedLogs x = new KeyedLogs();
        for (int i = 0; i < members.length(); i++) {
            int m = members.charAt(i) - '0';
            if (x.member(m, 0) == 1) {
                x.leave(m);
            } else {
                x.join(m);
            }
        }
        S.alike("by " + members, Scene.owners(x), owners);
    }

    private static void keepsAndFrees() {
        S.says("Then, by numbers, each MEMBER that has more than q LOGS keeps q and 1 of them, if fewer than m did "
                + "so ahead of it, else q (its least ones); the others are free.");
        goes("2", "2222");
        goes("20", "2200");
        goes("02", "0022");
        goes("201", "2100");
        goes("021", "0021");
        goes("321", "3122");
        goes("123", "1123");
        goes("312", "3211");
        goes("130", "1130");
        goes("2013", "2103");
        goes("0213", "0321");
        goes("0123", "0312");
    }

    private static void freeLogs() {
        S.says("Then the free LOGS, by numbers, each go to who is IN and has least LOGS, of several the least "
                + "number (while none is IN they are of none).");
        goes("20132", "0103");
        goes("201323", "0101");
        goes("2013230", "1111");
        goes("20132301", "----");
        goes("200", "2222");
        goes("0120", "1212");
        goes("11", "----");
        goes("113", "3333");
    }

    private static void moves() {
        S.says("MOVES: LOGS that are of another one (or of one, of none) than ahead of it.");
        KeyedLogs x = new KeyedLogs();
        S.due("of one now", x.join(2), 4);
        S.due("two of another", x.join(0), 2);
        S.due("one of another", x.join(1), 1);
        S.due("one of another", x.join(3), 1);
        S.due("one of another", x.leave(2), 1);
        S.due("one of another", x.leave(3), 1);
        S.due("two of another", x.leave(0), 2);
        S.due("of none now", x.leave(1), 4);
        S.due("of one again", x.join(1), 4);
    }

    private static void polled() {
        S.says("POLLED: a MEMBER that is IN: of its LOGS, by numbers, the first that has a RECORD at DONE or "
                + "behind: of these RECORDS the nearest; DONE of the LOG is behind its OFFSET then; READ is 1 more.");
        KeyedLogs x = Scene.come(Scene.of("a1 b1"), 3, "a1");
        x.join(1);
        S.due("at DONE", x.poll(1), 0);
        S.due("DONE", x.of(0, 8), 1);
        S.due("READ", x.told(4), 1);
        S.due("the last of its first", x.poll(1), 1);
        S.due("DONE is END", x.of(0, 8), 2);
        S.due("the next LOG that has one", x.poll(1), 3000);
        S.due("none is left", x.poll(1), -5);
        S.due("READ is 1 more by what there was", x.told(4), 3);
        S.due("DONE stays", x.of(3, 8), 1);
        x.put(0, 0, 1, 1, 1);
        S.due("one that came", x.poll(1), 2);
        x.seek(0, 1);
        S.due("again from DONE on", x.poll(1), 1);
        S.due("READ", x.told(4), 5);
        KeyedLogs y = Scene.of("b1 a1 a1 c1 a1");
        y.join(0);
        y.compact(0);
        S.due("the first", y.poll(0), 0);
        S.due("over HOLES, to the nearest", y.poll(0), 3);
        S.due("DONE is behind it", y.of(0, 8), 4);
        y.seek(0, 0);
        y.set(1, 0);
        y.retain(0);
        S.due("DONE is ahead of START", y.poll(0), 4);
        KeyedLogs z = Scene.come(Scene.come(Scene.of("a1"), 1, "a1"), 2, "a1");
        z.join(0);
        z.join(3);
        S.due("its own LOGS alone", z.poll(3), 2000);
        S.due("its own LOGS alone", z.poll(3), -5);
        S.due("by numbers", z.poll(0), 0);
        S.due("by numbers", z.poll(0), 1000);
    }

    // ---- the text

    /** Behind each beginning, of all 128 signs those alone with which a text goes on so. */
    private static void textSigns() {
        S.says("RECORDS are read from THE TEXT (bytes, 100 at most): CLAUSES, 1 to 12, with ; between: a LOG (a "
                + "digit 0 .. 3), a KEY (a letter), then either - (it is a TOMB; so 0a-), or = and num (perhaps - "
                + "ahead, 1 to 4 digits), perhaps with / and den (1 or 2 digits) behind it; SIZE is 1.");
        String digits = "0123456789", letters = "abcdefghijklmnopqrstuvwxyz";
        goesOn("", "0123");
        goesOn("0", letters);
        goesOn("3", letters);
        goesOn("0a", "-=");
        goesOn("3z", "-=");
        goesOn("0a-", ";");
        goesOn("0a=", "-" + digits);
        goesOn("0a=-", digits);
        goesOn("0a=1", digits + "/;");
        goesOn("0a=123", digits + "/;");
        goesOn("0a=1234", "/;");
        goesOn("0a=0000", "/;");
        goesOn("0a=-123", digits + "/;");
        goesOn("0a=-1234", "/;");
        goesOn("0a=1/", digits);
        goesOn("0a=1/2", digits + ";");
        goesOn("0a=1/23", ";");
        goesOn("0a=-1234/00", ";");
        goesOn("0a-;", "0123");
        goesOn("0a=1;", "0123");
        goesOn("0a=1/2;", "0123");
        goesOn("0a=1;3", letters);
        goesOn("0a-;".repeat(10) + "0a-", ";");
        goesOn("0a-;".repeat(11), "0123");
        goesOn("0a-;".repeat(11) + "0a-", "");
        goesOn("0a-;".repeat(11) + "0a=1", digits + "/");
    }

    private static void goesOn(String beginning, String with) {
        for (int sign = 0; sign < 128; sign++) {
            boolean faulty = reading(beginning, sign) == -10 - beginning.length();
            S.that("behind '" + beginning + "' sign " + sign, faulty == (with.indexOf(sign) < 0));
        }
    }

    private static int reading(String beginning, int sign) {
        KeyedLogs x = Scene.say(new KeyedLogs(), beginning);
        x.feed(sign);
        return x.read();
    }

    private static void textEdges() {
        KeyedLogs x = Scene.say(new KeyedLogs(), "0a-;3z=0;0b=9999/99;1c=-9999;1d=7/1;2e=1/0;2f=-1/00;2g=0/0;3h=0012/04");
        S.due("nine CLAUSES", x.read(), 9);
        S.due("0a- is a TOMB", x.record(0, 0, 3), 1);
        S.due("0", x.record(3, 0, 4), 0);
        S.due("the greatest num and den", x.record(0, 1, 4), Scene.bits(9999f / 99f));
        S.due("the least num", x.record(1, 0, 4), Scene.bits(-9999f));
        S.due("a den of one digit", x.record(1, 1, 4), Scene.bits(7f));
        S.due("den 0", x.record(2, 0, 4), 0x7f800000);
        S.due("den 0", x.record(2, 1, 4), 0xff800000);
        S.due("den 0", x.record(2, 2, 4), 0x7fc00000);
        S.due("digits 0 ahead", x.record(3, 1, 4), Scene.bits(3f));
        for (int log = 0; log < 4; log++) {
            S.due("SIZE is 1", x.record(log, 1, 2), 1);
        }
        S.due("SIZE of a TOMB is 1", x.record(0, 0, 2), 1);
        String hundred = "2a=1234;".repeat(10) + "2b=-1234;2c=-1234/12";
        S.due("100 bytes", hundred.length(), 100);
        KeyedLogs y = Scene.say(new KeyedLogs(), hundred);
        S.refused("the 101st", () -> Scene.say(new KeyedLogs(), hundred), z -> z.feed('1'), FULL);
        S.due("the 101st", y.feed('3'), FULL);
        S.due("100 bytes are 12 CLAUSES", y.read(), 12);
        S.due("the last of them", y.value(2, 2), Scene.bits(-1234f / 12f));
        S.due("one CLAUSE", Scene.reading("0a-"), 1);
        S.due("no CLAUSE", Scene.reading(""), -10);
        S.due("twelve", Scene.reading("0a-;".repeat(11) + "1b=5"), 12);
        S.due("thirteen", Scene.reading("0a-;".repeat(12) + "1b=5"), -10 - 47);
    }

    private static void blanks() {
        S.says("No blanks.");
        String text = "0a=-12/34;1b-";
        S.due("without", Scene.reading(text), 2);
        for (int at = 0; at <= text.length(); at++) {
            for (String blank : new String[] {" ", "\t", "\n"}) {
                S.due("at " + at, Scene.reading(text.substring(0, at) + blank + text.substring(at)), -10 - at);
            }
        }
    }

    private static void fault() {
        S.says("The FAULT: the place of the first byte with which none begins so (the end of THE TEXT, if it ends "
                + "too early).");
        String text = "0a=-12/34;1b-";
        for (int n = 0; n <= text.length(); n++) {
            boolean oneClause = n == 5 || n == 6 || n == 8 || n == 9;
            int due = oneClause ? 1 : n == text.length() ? 2 : -10 - n;
            S.due("its first " + n + " bytes", Scene.reading(text.substring(0, n)), due);
        }
        for (int at = 0; at < text.length(); at++) {
            String broken = text.substring(0, at) + "?" + text.substring(at + 1);
            S.due("a wrong byte at " + at, Scene.reading(broken), -10 - at);
            S.due("the first of two", Scene.reading(broken + "?"), -10 - at);
        }
        S.due("a LOG 4", Scene.reading("0a-;4a-"), -14);
        S.due("five digits", Scene.reading("0a=12345"), -17);
        S.due("five digits behind -", Scene.reading("0a=-12345"), -18);
        S.due("three digits of den", Scene.reading("0a=1/123"), -17);
        S.due("a den below 0", Scene.reading("0a=1/-1"), -15);
        S.due("two - ahead", Scene.reading("0a=--1"), -14);
        S.due("; at the end", Scene.reading("0a-;"), -14);
        S.due("; at the begin", Scene.reading(";0a-"), -10);
        S.due("; twice", Scene.reading("0a-;;1b-"), -14);
        S.due("the thirteenth CLAUSE's ;", Scene.reading("0a-;".repeat(12)), -10 - 47);
        S.due("100 bytes, the last is wrong", Scene.reading("2a=1234;".repeat(10) + "2b=-1234;2c=-1234/1?"), -109);
        KeyedLogs x = Scene.say(new KeyedLogs(), "0a=1;1b-;2c");
        S.due("it ends too early", x.read(), -21);
        S.due("none of them came", x.count(0), 0);
    }

    private static void roomForClauses() {
        S.says("They come one behind the other; one for which its LOG has no room doesn't.");
        KeyedLogs x = Scene.say(new KeyedLogs(), "0a=1;0a=2;0b=3;0b-;0c-;0c=4");
        S.due("six", x.read(), 6);
        S.due("the last of a", x.value(0, 0), Scene.bits(2f));
        S.due("the last of b", x.value(0, 1), NO);
        S.due("the last of c", x.value(0, 2), Scene.bits(4f));
        S.alike("in SEGMENTS", Scene.picture(x, 0), "0:0,1,2,3 4:4,5");
        KeyedLogs y = Scene.say(Scene.filled(198, 1), "0a=1;0b-;0c=3;1d-;0e-;2f=6");
        S.due("two and two", y.read(), 4);
        S.due("room for two", y.of(0, 2), 200);
        S.due("the first of them", y.record(0, 198, 0), 0);
        S.due("the second", y.record(0, 199, 0), 1);
        S.due("behind one that did not come", y.record(1, 0, 0), 3);
        S.due("behind one that did not come", y.record(2, 0, 0), 5);
        KeyedLogs z = Scene.say(Scene.filled(200, 1), "0a=1;0b-");
        S.due("room for none", z.read(), 0);
        S.due("THE TEXT is empty", z.count(4), 0);
        S.due("none came", z.value(0, 0), Scene.bits(182f));
    }
}
