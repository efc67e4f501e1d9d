/** The edges that "Terms" names, sentence by sentence: what is asked, tapes, answers. */
public final class AskedEdgesTest {
    private static final Sentences S = new Sentences();
    private static final int NONE = Scene.NONE, BAD = Scene.BAD, STATE = Scene.STATE, FULL = Scene.FULL;
    private static final int NOTHING = Scene.NOTHING, CAST = Scene.CAST, PLACE = Scene.PLACE;
    private static final int SIZE = Scene.SIZE, STORED = Scene.STORED;
    private static final int MIN = Scene.MIN, MAX = Scene.MAX;
    private static final long NO = Scene.NO;

    public static void main(String[] args) {
        S.part("==== 2 ", "## Promise 1: ");
        askedChangesNothing();
        ofMap();
        leastAndGreatest();
        ofMapWithoutEnd();
        replay();
        nearest();
        oldest();
        lag();
        would();
        need();
        odds();
        planRows();
        planRowsAlone();
        planTime();
        book();
        kept();
        image();
        notOfTheImage();
        tapes();
        judged();
        hostsRefusals();
        answers();
        firstNamed();
        valuesAsBits();
        S.end("AskedEdgesTest");
    }

    private static void askedChangesNothing() {
        S.says("==== 2 All that follows is asked, and changes nothing.");
        for (int n = 0; n < 3; n++) {
            int i = n;
            asked("map", x -> x.map(i, 4 - i));
            asked("replay", x -> x.replay(i, 3 + i, i - 1));
            asked("near", x -> x.near(i, 4, i % 2));
            asked("oldest", x -> x.oldest(i, i));
            asked("member", x -> x.member(i, 2));
            asked("would", x -> x.would(i, 0));
            asked("would", x -> x.would(i, 1));
            asked("need", x -> x.need(i, i));
            asked("odds", x -> x.odds(i, i % 2));
            asked("ends", x -> x.ends(i % 2));
            asked("looked", x -> x.looked());
            asked("kept", x -> x.kept(i, i));
        }
    }

    private static void asked(String name, Looks.Call call) {
        S.changesNothing(name, Scene::rich, call);
    }

    // ---- what a map comes to

    private static void ofMap() {
        S.says("OF MAP: how many; SUM (floats, from 0.0f, by KEYS), LEAST, GREATEST (by Float.compare), MEAN: the "
                + "sum as doubles (from 0.0, by KEYS) by how many.");
        KeyedLogs x = new KeyedLogs();
        x.put(0, 2, 1, 1, 1);
        x.put(0, 1, 1, 1, 1);
        x.put(0, 0, 16777216, 1, 1);
        S.due("how many", x.map(0, 0), 3);
        S.due("SUM by KEYS: 1 is lost twice", x.map(0, 1), 0x4b800000);
        S.due("MEAN: none is lost", x.map(0, 4), Scene.wide(5592406.0));
        x.tomb(0, 0, 1);
        x.put(0, 25, 16777216, 1, 1);
        S.due("SUM by KEYS: none is lost", x.map(0, 1), 0x4b800001);
        KeyedLogs y = new KeyedLogs();
        y.put(0, 0, MAX, 1, 1);
        y.put(0, 2, MIN, 1, 1);
        y.put(0, 1, 1, MAX, 1);
        S.due("SUM", y.map(0, 1), 0);
        S.due("MEAN by KEYS: what is small is lost", y.map(0, 4), 0);
        y.put(0, 3, 1, MAX, 1);
        S.due("SUM: what comes last is not", y.map(0, 1), 0x30000000);
        S.due("MEAN: what comes last is not", y.map(0, 4), Scene.wide(1.0 / 2147483648.0 / 4.0));
        KeyedLogs thirds = new KeyedLogs();
        thirds.put(0, 0, 1, 3, 1);
        thirds.put(0, 1, 1, 3, 1);
        thirds.put(0, 2, 1, 3, 1);
        float third = 1f / 3f;
        S.due("SUM of floats", thirds.map(0, 1), Scene.bits(third + third + third));
        S.due("MEAN of floats, as doubles", thirds.map(0, 4),
                Scene.wide(((double) third + (double) third + (double) third) / 3.0));
        KeyedLogs one = Scene.of("k1");
        S.due("one: SUM", one.map(0, 1), Scene.bits(1f));
        S.due("one: LEAST", one.map(0, 2), Scene.bits(1f));
        S.due("one: GREATEST", one.map(0, 3), Scene.bits(1f));
        S.due("one: MEAN", one.map(0, 4), Scene.wide(1.0));
        KeyedLogs all = Scene.filled(26, 1);
        S.due("all KEYS: how many", all.map(0, 0), 26);
        S.due("all KEYS: SUM", all.map(0, 1), Scene.bits(325f));
        S.due("all KEYS: LEAST", all.map(0, 2), 0);
        S.due("all KEYS: GREATEST", all.map(0, 3), Scene.bits(25f));
        S.due("all KEYS: MEAN", all.map(0, 4), Scene.wide(12.5));
        KeyedLogs below = new KeyedLogs();
        below.put(0, 0, -1, 3, 1);
        below.put(0, 1, -5, 1, 1);
        S.due("below 0: SUM", below.map(0, 1), Scene.bits(-1f / 3f - 5f));
        S.due("below 0: MEAN", below.map(0, 4), Scene.wide(((double) (-1f / 3f) - 5.0) / 2.0));
    }

    private static void leastAndGreatest() {
        long plusInfinity = 0x7f800000, minusInfinity = 0xff800000, nan = 0x7fc00000, minusZero = 0x80000000;
        int[] minus = {0, -1}, zero = {0, 1}, up = {1, 0}, down = {-1, 0}, odd = {0, 0}, one = {1, 1};
        most("0.0 and -0.0", minusZero, 0, zero, minus);
        most("-0.0 and 0.0", minusZero, 0, minus, zero);
        most("NaN is the greatest", plusInfinity, nan, up, odd);
        most("NaN is the greatest", Scene.bits(1f), nan, odd, one);
        most("NaN alone", nan, nan, odd);
        most("infinities", minusInfinity, plusInfinity, one, up, down);
        most("all of them", minusInfinity, nan, one, up, odd, down, zero, minus);
        most("below 0", Scene.bits(-2f), Scene.bits(-1f), new int[] {-1, 1}, new int[] {-2, 1});
        most("below 0", Scene.bits(-2f), Scene.bits(-1f), new int[] {-2, 1}, new int[] {-1, 1});
        most("about 0", Scene.bits(-2f), Scene.bits(1f), one, new int[] {-2, 1}, zero);
        most("next to one another", 0x4b800000, 0x4b800001, new int[] {16777218, 1}, new int[] {16777216, 1});
    }

    /** Values by KEYS. */
    private static KeyedLogs valued(int[]... numbers) {
        KeyedLogs x = new KeyedLogs();
        for (int key = 0; key < numbers.length; key++) {
            x.put(0, key, numbers[key][0], numbers[key][1], 1);
        }
        return x;
    }

    private static void most(String name, long least, long greatest, int[]... numbers) {
        KeyedLogs x = valued(numbers);
        S.due(name + ": LEAST", x.map(0, 2), (int) least);
        S.due(name + ": GREATEST", x.map(0, 3), (int) greatest);
    }

    private static void ofMapWithoutEnd() {
        long plusInfinity = 0x7f800000, minusInfinity = 0xff800000, nan = 0x7fc00000;
        int[] up = {1, 0}, down = {-1, 0}, odd = {0, 0}, one = {1, 1}, minus = {0, -1};
        sums("infinity", plusInfinity, 0x7ff0000000000000L, one, up, one);
        sums("infinity twice", plusInfinity, 0x7ff0000000000000L, up, up);
        sums("infinity below 0", minusInfinity, 0xfff0000000000000L, down, one);
        sums("both infinities", nan, 0x7ff8000000000000L, up, down);
        sums("both infinities and more", nan, 0x7ff8000000000000L, down, up, up, one);
        sums("NaN", nan, 0x7ff8000000000000L, one, odd, up);
        sums("NaN last", nan, 0x7ff8000000000000L, down, odd);
        sums("from 0.0: -0.0 is 0.0", 0, 0, minus);
        sums("from 0.0: -0.0 twice", 0, 0, minus, minus);
        sums("none is left of 1 and -1", 0, 0, one, new int[] {-1, 1});
        KeyedLogs none = new KeyedLogs();
        S.due("none: how many", none.map(0, 0), 0);
        S.due("none: SUM is 0.0", none.map(0, 1), 0);
        S.due("none: MEAN", none.map(0, 4), NO);
        KeyedLogs tombs = Scene.of("a1 a-1 b-1");
        S.due("TOMBS: how many", tombs.map(0, 0), 0);
        S.due("TOMBS: SUM is 0.0", tombs.map(0, 1), 0);
        for (int what = 2; what < 5; what++) {
            S.due("TOMBS: none", tombs.map(0, what), NO);
        }
    }

    private static void sums(String name, long sum, long mean, int[]... numbers) {
        KeyedLogs x = valued(numbers);
        S.due(name + ": SUM", x.map(0, 1), (int) sum);
        S.due(name + ": MEAN", x.map(0, 4), mean);
    }

    // ---- what lies where

    private static void replay() {
        S.says("REPLAY of a LOG up to an OFFSET (that one isn't in it): how many KEYS MAP would have by RECORDS "
                + "ahead of that alone; VALUE of a KEY then.");
        KeyedLogs x = Scene.of("a1 b1 a-1 b1 a1");
        int[] many = {0, 1, 2, 1, 1, 2, 2};
        long[] a = {NO, Scene.bits(1f), Scene.bits(1f), NO, NO, Scene.bits(5f), Scene.bits(5f)};
        long[] b = {NO, NO, Scene.bits(2f), Scene.bits(2f), Scene.bits(4f), Scene.bits(4f), Scene.bits(4f)};
        for (int offset = 0; offset < many.length; offset++) {
            S.due("KEYS up to " + offset, x.replay(0, offset, -1), many[offset]);
            S.due("a up to " + offset, x.replay(0, offset, 0), a[offset]);
            S.due("b up to " + offset, x.replay(0, offset, 1), b[offset]);
        }
        S.due("far behind END", x.replay(0, MAX, -1), 2);
        S.due("far behind END", x.replay(0, MAX, 0), Scene.bits(5f));
        x.compact(0);
        // left: 3 and, in the ACTIVE one, 4
        S.due("by what is left", x.replay(0, 3, -1), 0);
        S.due("by what is left", x.replay(0, 4, -1), 1);
        S.due("an empty LOG", x.replay(1, 5, -1), 0);
        S.due("an empty LOG", x.replay(1, 5, 0), NO);
    }

    private static void nearest() {
        S.says("AT or BEFORE, AT or BEHIND an OFFSET: the nearest RECORD's OFFSET so.");
        KeyedLogs x = Scene.of("c1 a1 a1 b1 a1");
        x.compact(0);
        // left: 0, 3, 4
        int[] offsets = {MIN, -1, 0, 1, 2, 3, 4, 5, 200, MAX};
        int[] before = {-5, -5, 0, 0, 0, 3, 4, 4, 4, 4};
        int[] behind = {0, 0, 0, 3, 3, 3, 4, -5, -5, -5};
        for (int i = 0; i < offsets.length; i++) {
            S.due("AT or BEFORE " + offsets[i], x.near(0, offsets[i], 0), before[i]);
            S.due("AT or BEHIND " + offsets[i], x.near(0, offsets[i], 1), behind[i]);
        }
        x.set(1, 0);
        x.retain(0);
        S.due("BEFORE what is left", x.near(0, 3, 0), -5);
        S.due("AT what is left", x.near(0, 4, 0), 4);
        S.due("BEHIND what went", x.near(0, 0, 1), 4);
        for (int how = 0; how < 2; how++) {
            S.due("an empty LOG", x.near(1, 0, how), -5);
        }
    }

    private static void oldest() {
        S.says("OLDEST k of a LOG: of its RECORDS by TIME, of like ones by SIZE, the greatest first, of like ones "
                + "by OFFSETS, number k.");
        KeyedLogs x = Scene.of("a1 b9 c1 d9");
        x.tick(1);
        Scene.come(x, 0, "e2 f-9 g2");
        int[] due = {1, 3, 0, 2, 5, 4, 6, -5};
        for (int k = 0; k < due.length; k++) {
            S.due("number " + k, x.oldest(0, k), due[k]);
        }
        S.due("far behind", x.oldest(0, MAX), -5);
        S.due("an empty LOG", x.oldest(1, 0), -5);
        x.put(0, 3, 1, 1, 9);
        x.compact(0);
        // 3, the second of d's, went; 7 came
        int[] then = {1, 0, 2, 5, 7, 4, 6, -5};
        for (int k = 0; k < then.length; k++) {
            S.due("then number " + k, x.oldest(0, k), then[k]);
        }
    }

    private static void lag() {
        S.says("LAG of a MEMBER: how many RECORDS are at DONE or behind in all its LOGS, together.");
        KeyedLogs x = Scene.come(Scene.of("a1 b1 c1"), 1, "a1 b1");
        Scene.come(x, 2, "a1");
        S.due("not IN", x.member(0, 2), 0);
        x.join(0);
        S.due("all", x.member(0, 2), 6);
        x.seek(0, 2);
        S.due("the one at DONE counts", x.member(0, 2), 4);
        x.seek(0, 3);
        S.due("DONE is END", x.member(0, 2), 3);
        x.seek(1, 1);
        S.due("the one ahead of DONE doesn't", x.member(0, 2), 2);
        x.join(2);
        S.due("its own LOGS", x.member(0, 2), 1);
        S.due("its own LOGS", x.member(2, 2), 1);
        x.leave(0);
        S.due("not IN any more", x.member(0, 2), 0);
        S.due("all are another's", x.member(2, 2), 2);
        KeyedLogs y = Scene.of("b1 a1 a1 c1 a1");
        y.join(3);
        y.compact(0);
        S.due("no HOLES", y.member(3, 2), 3);
        y.seek(0, 1);
        S.due("from a HOLE on", y.member(3, 2), 2);
    }

    private static void would() {
        S.says("WOULD GO: how many RECORDS of a LOG would go, were it COMPACTED now; RETAINED now.");
        KeyedLogs x = Scene.of("a1 a-1 b1 c1 d1 b1");
        S.due("a later one", x.would(0, 0), 2);
        x.tick(4);
        S.due("within GRACE", x.would(0, 0), 2);
        x.tick(1);
        S.due("GRACE is over", x.would(0, 0), 3);
        S.due("and it goes so", x.compact(0), 3);
        S.due("none more", x.would(0, 0), 0);
        KeyedLogs y = Scene.filled(10, 5);
        y.set(1, 50);
        S.due("50 are not above 50", y.would(0, 1), 0);
        y.set(1, 49);
        S.due("50 are above 49", y.would(0, 1), 4);
        y.set(1, 29);
        S.due("30 are above 29", y.would(0, 1), 8);
        S.due("and it goes so", y.retain(0), 8);
        S.due("the ACTIVE one stays", y.would(0, 1), 0);
        KeyedLogs z = Scene.later(Scene.filled(5, 1), 50);
        S.due("not too old", z.would(0, 1), 0);
        z.tick(1);
        S.due("too old", z.would(0, 1), 4);
        S.due("an empty LOG", z.would(1, 0), 0);
        S.due("an empty LOG", z.would(1, 1), 0);
    }

    private static void need() {
        S.says("NEED of a LOG and n: the least KEEP 0 .. 200 by which, RETAINED, n RECORDS or more would be left "
                + "(-5: none).");
        KeyedLogs x = Scene.filled(40, 5);
        S.due("KEEP 200", x.need(0, 40), 200);
        S.due("37 are 36 and more", x.need(0, 37), 200);
        S.due("36", x.need(0, 36), 180);
        S.due("33 are 32 and more", x.need(0, 33), 180);
        S.due("4", x.need(0, 4), 20);
        S.due("1", x.need(0, 1), 20);
        S.due("0", x.need(0, 0), 0);
        S.due("41 are not there", x.need(0, 41), -5);
        x.put(0, 0, 1, 1, 1);
        S.due("it would be KEEP 201", x.need(0, 38), -5);
        S.due("KEEP 181", x.need(0, 37), 181);
        S.due("the ACTIVE one stays by any", x.need(0, 1), 0);
        S.due("2", x.need(0, 2), 21);
        x.set(1, 0);
        S.due("KEEP itself does not matter", x.need(0, 37), 181);
        x.set(1, 999);
        S.due("KEEP itself does not matter", x.need(0, 38), -5);
        Scene.later(x, 51);
        S.due("all but the ACTIVE one too old", x.need(0, 2), -5);
        S.due("the ACTIVE one", x.need(0, 1), 0);
        KeyedLogs full = Scene.filled(200, 1);
        S.due("200 of SIZE 1", full.need(0, 200), 200);
        S.due("197", full.need(0, 197), 200);
        S.due("196", full.need(0, 196), 196);
        KeyedLogs none = new KeyedLogs();
        S.due("an empty LOG, 0", none.need(0, 0), 0);
        S.due("an empty LOG, 1", none.need(0, 1), -5);
        S.due("an empty LOG, 200", none.need(0, 200), -5);
        KeyedLogs empty = Scene.of("d1 d1 d1 d1 a9 b9 c9 d1");
        empty.compact(0);
        S.due("an empty SEGMENT goes by any", empty.need(0, 4), 28);
    }

    private static void odds() {
        S.says("ODDS of a LOG: KEEP being any of 0, 5, 10 .. 95, each alike likely: how likely it is that RETAINED "
                + "no RECORD would go: a fraction in lowest terms.");
        likely("an empty LOG", new KeyedLogs(), 1, 1);
        likely("the ACTIVE one alone", Scene.of("a9 b9 c1"), 1, 1);
        likely("4 SIZES: 5 .. 95", Scene.of("a1 b1 c1 d1"), 19, 20);
        likely("5 SIZES: 5 .. 95", Scene.of("a1 b1 c1 d2"), 19, 20);
        likely("6 SIZES: 10 .. 95", Scene.of("a1 b1 c2 d2"), 9, 10);
        likely("10 SIZES: 10 .. 95", Scene.of("a1 b1 c4 d4"), 9, 10);
        likely("11 SIZES: 15 .. 95", Scene.of("a1 b1 c4 d5"), 17, 20);
        likely("16 SIZES: 20 .. 95", Scene.of("a4 b4 c4 d4"), 4, 5);
        likely("20 SIZES: 20 .. 95", Scene.of("a5 b5 c5 d5"), 4, 5);
        likely("21 SIZES: 25 .. 95", Scene.of("a5 b5 c5 d5 e1"), 3, 4);
        likely("50 SIZES: 50 .. 95", Scene.filled(10, 5), 1, 2);
        likely("90 SIZES: 90, 95", Scene.filled(18, 5), 1, 10);
        likely("91 SIZES: 95", Scene.come(Scene.filled(18, 5), 0, "z1"), 1, 20);
        likely("95 SIZES: 95", Scene.filled(19, 5), 1, 20);
        likely("96 SIZES: none", Scene.come(Scene.filled(19, 5), 0, "z1"), 0, 1);
        likely("100 SIZES: none", Scene.filled(20, 5), 0, 1);
        likely("50 later", Scene.later(Scene.of("a1 b1 c1 d1"), 50), 19, 20);
        likely("too old by any", Scene.later(Scene.of("a1 b1 c1 d1"), 51), 0, 1);
        KeyedLogs empty = Scene.of("a1 a1 a1 a1 a1");
        empty.compact(0);
        likely("an empty SEGMENT goes, no RECORD", empty, 1, 1);
        KeyedLogs kept = Scene.of("a1 b1 c1 d1");
        kept.set(1, 0);
        likely("KEEP itself does not matter", kept, 19, 20);
    }

    private static void likely(String name, KeyedLogs x, int above, int below) {
        S.due(name + ": above the line", x.odds(0, 0), above);
        S.due(name + ": below the line", x.odds(0, 1), below);
    }

    // ---- plans, books, kept, the image

    private static void planRows() {
        S.says("A PLAN told by hand: what goes (0 LOG n is COMPACTED, 1 RETAINED, 2 MEMBER n is POLLED, if it is "
                + "IN, 3 TIME is n more; 10 rows at most): ENDS: RECORDS of all LOGS, together; READ.");
        KeyedLogs x = Scene.come(Scene.of("a1 b1 c1 d1 a1"), 3, "a1 a1 a1 a1 b1");
        S.due("no rows: RECORDS", x.ends(0), 10);
        S.due("no rows: READ", x.ends(1), 0);
        x.plan(0, 0);
        S.due("LOG 0 is COMPACTED, and no more", x.ends(0), 9);
        x.plan(0, 3);
        S.due("LOG 3, too", x.ends(0), 6);
        x.plan(-1, 0);
        x.set(1, 0);
        x.plan(1, 3);
        S.due("LOG 3 is RETAINED, and no more", x.ends(0), 6);
        x.plan(1, 0);
        S.due("LOG 0, too", x.ends(0), 2);
        S.due("none is POLLED", x.ends(1), 0);
        x.plan(-1, 0);
        x.plan(2, 3);
        S.due("not IN", x.ends(1), 0);
        x.join(3);
        S.due("IN", x.ends(1), 1);
        S.due("no RECORD goes by that", x.ends(0), 10);
        for (int n = 2; n <= 10; n++) {
            S.due("row " + n, x.plan(2, 3), n);
        }
        S.due("ten rows", x.ends(1), 10);
        S.due("no eleventh", x.plan(2, 3), FULL);
        x.poll(3);
        S.due("nine RECORDS are left for ten rows", x.ends(1), 10);
        x.poll(3);
        S.due("eight", x.ends(1), 10);
        S.due("READ itself", x.told(4), 2);
        KeyedLogs y = Scene.of("a1 b1 c1 d1 a1");
        y.join(2);
        y.plan(2, 2);
        y.plan(0, 0);
        y.plan(2, 2);
        S.due("one ahead, one behind", y.ends(1), 2);
        y.set(1, 0);
        y.plan(1, 0);
        y.plan(2, 2);
        y.plan(2, 2);
        S.due("then the one that is left", y.ends(1), 3);
    }

    /** Each row does its own alone. */
    private static void planRowsAlone() {
        KeyedLogs x = Scene.settings(Scene.of("a-1 b1 c1 d1 b1"), 3, 0, 999);
        x.join(3);
        x.plan(0, 0);
        S.due("COMPACTED, not RETAINED", x.ends(0), 4);
        S.due("COMPACTED, not POLLED", x.ends(1), 0);
        x.plan(-1, 0);
        x.plan(1, 3);
        S.due("RETAINED, not POLLED", x.ends(1), 0);
        S.due("another LOG is RETAINED", x.ends(0), 5);
        x.plan(0, 0);
        S.due("RETAINED, TIME is no more", x.ends(0), 4);
        x.plan(-1, 0);
        x.plan(2, 3);
        x.plan(0, 0);
        S.due("POLLED, TIME is no more", x.ends(0), 4);
        S.due("POLLED once", x.ends(1), 1);
        x.plan(-1, 0);
        x.plan(3, 3);
        S.due("TIME is more: no RECORD goes", x.ends(0), 5);
        S.due("TIME is more: none is POLLED", x.ends(1), 0);
        x.plan(0, 0);
        S.due("then it goes", x.ends(0), 3);
    }

    private static void planTime() {
        KeyedLogs x = Scene.of("a-1 b1 c1 d1");
        x.plan(0, 0);
        x.plan(3, 5);
        S.due("TIME is more only then", x.ends(0), 4);
        x.plan(0, 0);
        S.due("COMPACTED behind it", x.ends(0), 3);
        x.plan(-1, 0);
        x.plan(3, 4);
        x.plan(0, 0);
        S.due("4 is not enough", x.ends(0), 4);
        x.plan(3, 1);
        x.plan(0, 0);
        S.due("4 and 1 are", x.ends(0), 3);
        x.plan(-1, 0);
        x.plan(3, 50);
        x.plan(1, 0);
        S.due("50 is not below", x.ends(0), 4);
        x.plan(3, 1);
        x.plan(1, 0);
        S.due("51", x.ends(0), 0);
        x.plan(-1, 0);
        x.plan(3, 0);
        x.plan(3, 99);
        x.plan(1, 0);
        S.due("0 and 99", x.ends(0), 0);
        S.due("TIME itself", x.told(0), 0);
        KeyedLogs own = Scene.come(Scene.later(new KeyedLogs(), 60), 0, "a-1 b1 c1 d1");
        own.plan(3, 4);
        own.plan(0, 0);
        S.due("GRACE by a TOMB's own TIME", own.ends(0), 4);
        own.plan(3, 1);
        own.plan(0, 0);
        S.due("GRACE by a TOMB's own TIME", own.ends(0), 3);
        own.plan(3, 45);
        own.plan(1, 0);
        S.due("AGE by their own TIME", own.ends(0), 3);
        own.plan(3, 1);
        own.plan(1, 0);
        S.due("AGE by their own TIME", own.ends(0), 0);
        KeyedLogs late = Scene.come(Scene.later(new KeyedLogs(), 9999), 0, "a1 b1 c1 d1");
        late.plan(3, 51);
        late.plan(1, 0);
        S.due("TIME is more, be it above 9999", late.ends(0), 0);
        S.due("TIME itself", late.told(0), 9999);
    }

    private static void book() {
        S.says("A BOOK told by hand: LOGS, START of each (8 rows at most): LOOKED at: the number of the first of "
                + "these rows by which it is otherwise now (-5: none).");
        KeyedLogs x = Scene.of("a1 b1 c1 d1 e1");
        S.due("no rows", x.looked(), -5);
        for (int n = 1; n <= 7; n++) {
            S.due("row " + n, x.book(n % 4, 0), n);
            S.due("as it is", x.looked(), -5);
        }
        S.due("the eighth row", x.book(0, 4), 8);
        S.due("it alone is otherwise", x.looked(), 7);
        S.due("no ninth", x.book(0, 0), FULL);
        S.due("as ahead of that", x.looked(), 7);
        x.set(1, 0);
        x.retain(0);
        S.due("START is 4 now: the fourth row", x.looked(), 3);
        x.book(-1, 0);
        S.due("no rows", x.looked(), -5);
        x.book(0, 3);
        S.due("below it", x.looked(), 0);
        x.book(-1, 0);
        x.book(0, 5);
        S.due("above it", x.looked(), 0);
        x.book(-1, 0);
        x.book(0, 4);
        x.book(1, 200);
        x.book(2, 200);
        S.due("the first of two", x.looked(), 1);
    }

    private static void kept() {
        S.says("KEPT: a row of VALUES alone (or of any RECORDS): RECORDS of a LOG are put there, by OFFSETS, one by "
                + "one from 0; a TOMB among VALUES: it stops there.");
        KeyedLogs x = Scene.of("d1 a1 b1 a1 c-1 e1");
        x.compact(0);
        // left: 0, 2, 3, 4 (a TOMB), 5
        S.due("any", x.keep(0, 0, 5), 5);
        int[] offsets = {0, 2, 3, 4, 5};
        for (int k = 0; k < 5; k++) {
            S.due("place " + k, x.kept(k, 0), offsets[k]);
        }
        S.due("behind them", x.kept(5, 0), NO);
        S.due("VALUES alone", x.keep(0, 1, 5), STORED);
        for (int k = 0; k < 5; k++) {
            S.due("up to the TOMB " + k, x.kept(k, 0), k < 3 ? offsets[k] : NO);
        }
        KeyedLogs y = Scene.of("a-1 b1");
        S.due("a TOMB at once", y.keep(0, 1, 5), STORED);
        S.due("none came", y.kept(0, 0), NO);
        S.due("one that came is not there any more", y.keep(1, 1, 5), 0);
        KeyedLogs z = Scene.of("a1 b1");
        S.due("VALUES alone, without a TOMB", z.keep(0, 1, 5), 2);
        z.put(0, 0, 9, 1, 1);
        S.due("what comes later is not there", z.kept(2, 0), NO);
    }

    private static void image() {
        S.says("THE IMAGE: LOGS, TIME, GRACE, KEEP, AGE, MEMBERS, DONE, READ, the PLAN, the BOOK");
        // each of them changed behind the image, alone: all answers are as without the change
        undone("a VALUE", x -> x.put(0, 0, 9, 1, 1));
        undone("a TOMB", x -> x.tomb(1, 2, 1));
        undone("a TEXT", x -> Scene.say(x, "=1;2z-").read());
        undone("TIME", x -> x.tick(9));
        undone("GRACE", x -> x.set(0, 0));
        undone("KEEP", x -> x.set(1, 0));
        undone("AGE", x -> x.set(2, 0));
        undone("COMPACTED", x -> x.compact(1));
        undone("RETAINED", x -> {
            x.set(1, 0);
            return x.retain(0) + x.retain(1);
        });
        undone("one comes IN", x -> x.join(2));
        undone("one goes", x -> x.leave(1));
        undone("all go", x -> x.leave(1) + x.leave(3));
        undone("READ, DONE", x -> x.poll(1));
        undone("DONE", x -> x.seek(0, 7));
        undone("a row of the PLAN", x -> x.plan(1, 1));
        undone("no PLAN", x -> x.plan(-1, 0));
        undone("another PLAN", x -> x.plan(-1, 0) + x.plan(2, 3) + x.plan(2, 1) + x.plan(3, 1) + x.plan(3, 2));
        undone("a row of the BOOK", x -> x.book(3, 200));
        undone("no BOOK", x -> x.book(-1, 0));
        undone("another BOOK", x -> x.book(-1, 0) + x.book(0, 1) + x.book(2, 0));
        sameOffsetAgain();
    }

    /** An OFFSET that is given again behind an undo: of THE IMAGE is what came first. */
    private static void sameOffsetAgain() {
        KeyedLogs x = Scene.of("a1 b1 c1 d1 e1");
        x.image();
        x.put(0, 6, 1, 2, 4);
        x.image();
        x.tick(3);
        x.undo();
        long[] first = {6, 0, 4, 0, Scene.bits(0.5f), 1};
        for (int what = 0; what < 6; what++) {
            S.due("OFFSET 5 of THE IMAGE: " + what, x.record(0, 5, what), first[what]);
        }
        KeyedLogs y = Scene.of("a1 b1 c1 d1 e1");
        y.image();
        y.tick(3);
        Scene.come(y, 0, "k-9 l9 m9");
        y.undo();
        S.alike("SEGMENTS", Scene.picture(y, 0), "0:0,1,2,3 4:4");
        y.put(0, 6, 1, 2, 4);
        for (int what = 0; what < 6; what++) {
            S.due("OFFSET 5 given again: " + what, y.record(0, 5, what), first[what]);
        }
    }

    /** Behind a change, the way back leads to an object like one that was not changed. */
    private static void undone(String name, Looks.Call change) {
        S.changesNothing(name, AskedEdgesTest::imaged, x -> {
            String text = x.count(4) == 2 ? "0b" : "";
            change.on(x);
            x.undo();
            // THE TEXT is not of the image
            return x.count(4) == 2 ? 0 : Scene.say(x, text).count(4);
        });
    }

    private static KeyedLogs imaged() {
        KeyedLogs x = Scene.rich();
        x.leave(0);
        x.put(0, 1, 8, 3, 2);
        x.image();
        return x;
    }

    private static void notOfTheImage() {
        S.says("(not KEPT, THE TEXT, TAPES).");
        KeyedLogs x = Scene.of("a1 b1");
        x.feed('3');
        x.tape(0, 1, 2);
        x.item(0, 1, 7);
        x.keep(0, 0, 5);
        x.image();
        x.keep(0, 0, 1);
        x.feed('z');
        x.feed('-');
        x.item(0, 1, 8);
        x.tape(1, 4, 1);
        x.tape(2, 0, 1);
        x.undo();
        S.due("KEPT is as it was ahead", x.kept(0, 0), 0);
        S.due("KEPT is as it was ahead", x.kept(1, 0), NO);
        S.due("THE TEXT is", x.count(4), 3);
        S.due("an item is", x.peek(0, 1), 8);
        S.due("a TAPE is", x.item(1, 0, 5), 1);
        S.due("THE TEXT's signs are", x.read(), 1);
        S.due("it came", x.record(3, 0, 3), 1);
        x.image();
        x.tape(0, -1, 0);
        x.undo();
        S.due("a TAPE that holds nothing is", x.item(0, 1, 5), NOTHING);
    }

    // ---- tapes

    private static void tapes() {
        S.says("==== 3 TAPES 0 .. 5 hold nothing (at first), or a row of 0 bytes, 1 shorts, 2 ints, 3 longs, 4 "
                + "booleans (items 0, 1).");
        for (int tape = 0; tape < 6; tape++) {
            KeyedLogs x = new KeyedLogs();
            S.due("nothing at first", x.item(tape, 0, 1), NOTHING);
            S.due("nothing at first", x.peek(tape, 0), NO);
            for (int other = 0; other < 6; other++) {
                x.tape(other, 3, 1);
                x.item(other, 0, 10 + other);
            }
            x.item(tape, 0, 99);
            for (int other = 0; other < 6; other++) {
                S.due("each its own", x.peek(other, 0), other == tape ? 99 : 10 + other);
            }
        }
        S.due("no TAPE -1", new KeyedLogs().tape(-1, 0, 1), NONE);
        S.due("no TAPE 6", new KeyedLogs().tape(6, 0, 1), NONE);
        long[] least = {-128, -32768, MIN, Long.MIN_VALUE + 1, 0};
        long[] greatest = {127, 32767, MAX, Long.MAX_VALUE, 1};
        for (int sort = 0; sort < 5; sort++) {
            KeyedLogs x = new KeyedLogs();
            S.due("sort " + sort, x.tape(0, sort, 2), 1);
            x.item(0, 0, least[sort]);
            x.item(0, 1, greatest[sort]);
            S.due("the least of sort " + sort, x.peek(0, 0), least[sort]);
            S.due("the greatest of sort " + sort, x.peek(0, 1), greatest[sort]);
            if (sort < 3) {
                x.item(0, 0, least[sort] - 1);
                x.item(0, 1, greatest[sort] + 1);
                S.due("below the least of sort " + sort, x.peek(0, 0), greatest[sort]);
                S.due("above the greatest of sort " + sort, x.peek(0, 1), least[sort]);
            }
        }
        S.due("no sort 5", new KeyedLogs().tape(0, 5, 1), BAD);
    }

    private static void judged() {
        S.says("OFFSETS of RECORDS of a LOG told by a row of shorts, from a place on, one by one, are JUDGED: the "
                + "first that is otherwise; -5: none, or it has none; 100 and how many were looked at, if the row "
                + "ends ahead of that (or the place is below 0, or the TAPE holds nothing).");
        KeyedLogs x = Scene.of("c1 a1 a1 b1 a1");
        x.compact(0);
        // left: 0, 3, 4
        S.due("the TAPE holds nothing", x.judge(0, 0, 0), 100);
        x.tape(0, 1, 0);
        S.due("a row of none", x.judge(0, 0, 0), 100);
        row(x, 0, 3, 4);
        S.due("none is otherwise", x.judge(0, 0, 0), -5);
        S.due("from the last place on", x.judge(0, 0, 2), 0);
        S.due("behind the last place", x.judge(0, 0, 3), 100);
        S.due("far behind", x.judge(0, 0, MAX), 100);
        S.due("the place is below 0", x.judge(0, 0, -1), 100);
        S.due("the place is far below 0", x.judge(0, 0, MIN), 100);
        row(x, 0, 3);
        S.due("the row ends behind two", x.judge(0, 0, 0), 102);
        row(x, 0);
        S.due("the row ends behind one", x.judge(0, 0, 0), 101);
        row(x, 0, 3, 4, 9);
        S.due("more than there are", x.judge(0, 0, 0), -5);
        row(x, 1, 3, 4);
        S.due("the first", x.judge(0, 0, 0), 0);
        row(x, 0, 2, 4);
        S.due("the second", x.judge(0, 0, 0), 1);
        row(x, 0, 3, 5);
        S.due("the third", x.judge(0, 0, 0), 2);
        row(x, 0, 2, 5);
        S.due("the first of two", x.judge(0, 0, 0), 1);
        row(x, 0, 2);
        S.due("ahead of the row's end", x.judge(0, 0, 0), 1);
        row(x, 7, 7, 0, 3, 4);
        S.due("from a place on", x.judge(0, 0, 2), -5);
        S.due("from a place on", x.judge(0, 0, 1), 0);
        row(x, 7, 7, 0, 3);
        S.due("from a place on, the row ends", x.judge(0, 0, 2), 102);
        S.due("it has none", x.judge(1, 0, 0), -5);
        S.due("it has none, the TAPE holds nothing", x.judge(1, 5, 0), -5);
        S.due("it has none, behind the last place", x.judge(1, 0, 4), -5);
        x.put(1, 0, 1, 1, 1);
        S.due("it has one", x.judge(1, 0, 2), -5);
        S.due("it has one, the TAPE holds nothing", x.judge(1, 5, 0), 100);
        S.due("it has one, behind the last place", x.judge(1, 0, 4), 100);
        KeyedLogs gone = Scene.of("a1 b1 c1 d1");
        gone.set(1, 0);
        gone.retain(0);
        S.due("it has none any more", gone.judge(0, 0, 0), -5);
    }

    private static void row(KeyedLogs x, int... items) {
        x.tape(0, 1, items.length);
        for (int i = 0; i < items.length; i++) {
            x.item(0, i, items[i]);
        }
    }

    // ---- answers

    private static void hostsRefusals() {
        S.says("The host's refusals: NOTHING (-11): nothing is there; CAST (-12): another sort; PLACE (-13): no such "
                + "place; SIZE (-14): a size below 0; STORED (-16).");
        S.refused("NOTHING", Scene::rich, x -> x.item(5, 0, 1), -11);
        S.refused("NOTHING", Scene::rich, x -> x.shift(0, 0, 5, 0, 1), -11);
        S.refused("CAST", Scene::rich, x -> x.judge(0, 1, 0), -12);
        S.refused("CAST", Scene::rich, x -> x.shift(0, 0, 1, 0, 1), -12);
        S.refused("PLACE", Scene::rich, x -> x.item(0, 4, 1), -13);
        S.refused("PLACE", Scene::rich, x -> x.shift(0, 4, 2, 0, 1), -13);
        S.refused("SIZE", Scene::rich, x -> x.tape(0, 1, -1), -14);
        S.refused("SIZE", Scene::rich, x -> x.keep(0, 0, -1), -14);
        KeyedLogs x = Scene.of("a1 b-1");
        S.due("STORED", x.keep(0, 1, 2), -16);
        S.due("PLACE", x.keep(0, 0, 1), -13);
    }

    private static void answers() {
        S.says("Answers: NONE (-1) no such number; BAD (-2) a number is not as told; STATE (-3) as told; FULL (-4);");
        S.due("NONE", KeyedLogs.NONE, -1);
        S.due("BAD", KeyedLogs.BAD, -2);
        S.due("STATE", KeyedLogs.STATE, -3);
        S.due("FULL", KeyedLogs.FULL, -4);
        S.refused("NONE", Scene::rich, x -> x.put(4, 0, 1, 1, 1), -1);
        S.refused("BAD", Scene::rich, x -> x.put(0, 0, 1, 1, 10), -2);
        S.refused("STATE", Scene::rich, x -> x.join(0), -3);
        S.refused("FULL", () -> Scene.filled(200, 1), x -> x.put(0, 0, 1, 1, 1), -4);

        S.says("The constants: `NO = Long.MIN_VALUE`: There is no such number.");
        S.due("NO", KeyedLogs.NO, Long.MIN_VALUE);
        S.due("NO", new KeyedLogs().value(0, 0), Long.MIN_VALUE);
        String[] groups = {"`put`, `tomb`, `tick`, `set`, `compact`, `retain`, `feed`, `read`, `of`, `record`, "
            + "`segment` the interface says: ---- records.",
            "`value`, `map`, `replay`, `near`, `oldest`, `would`, `need` the interface says: ---- what a log comes "
            + "to.",
            "`join`, `leave`, `poll`, `seek`, `member`, `told` the interface says: ---- members.",
            "`odds`, `plan`, `ends`, `book`, `looked`, `keep`, `kept` the interface says: ---- odds, plans, books, "
            + "rows.",
            "`judge`, `image`, `undo`, `count`, `tape`, `item`, `peek`, `shift` the interface says: ---- judging, "
            + "the image, tapes."};
        for (String group : groups) {
            S.namesNoEdge("Ahead of the calls " + group);
        }
    }

    private static KeyedLogs full() {
        KeyedLogs x = Scene.filled(200, 1);
        for (int i = 0; i < 10; i++) {
            x.plan(3, 1);
            x.book(0, 0);
        }
        x.tape(0, 1, 2);
        x.tape(1, 2, 2);
        return x;
    }

    private static KeyedLogs fullText() {
        return Scene.say(new KeyedLogs(), "0a-;".repeat(25));
    }

    private static KeyedLogs lastTime() {
        return Scene.later(new KeyedLogs(), 9999);
    }

    private static void firstNamed() {
        S.says("the first that a call's words name.");
        S.due("put: NONE, BAD, FULL", full().put(4, 0, 1, 1, 0), NONE);
        S.due("put: NONE, FULL", full().put(0, 26, 1, 1, 1), NONE);
        S.due("put: BAD, FULL", full().put(0, 0, 1, 1, 0), BAD);
        S.due("tomb: NONE, BAD", full().tomb(0, 26, 0), NONE);
        S.due("tomb: BAD, FULL", full().tomb(0, 0, 10), BAD);
        S.due("tick: BAD, STATE", lastTime().tick(100), BAD);
        S.due("tick: BAD, STATE", lastTime().tick(MAX), BAD);
        S.due("tick: STATE", lastTime().tick(99), STATE);
        S.due("set: NONE, BAD", full().set(3, -1), NONE);
        S.due("feed: BAD, FULL", fullText().feed(128), BAD);
        S.due("feed: BAD, FULL", fullText().feed(-1), BAD);
        S.due("feed: FULL", fullText().feed(127), FULL);
        S.due("need: NONE, BAD", full().need(4, 201), NONE);
        S.due("seek: NONE, BAD", full().seek(4, -1), NONE);
        S.due("plan: NONE, FULL", full().plan(4, 0), NONE);
        S.due("plan: NONE, FULL", full().plan(0, 4), NONE);
        S.due("plan: NONE, FULL", full().plan(2, -1), NONE);
        S.due("plan: BAD, FULL", full().plan(3, 100), BAD);
        S.due("plan: what alone", full().plan(4, 100), NONE);
        S.due("book: NONE, BAD, FULL", full().book(4, 201), NONE);
        S.due("book: BAD, FULL", full().book(0, 201), BAD);
        S.due("keep: NONE, BAD", full().keep(4, 2, 61), NONE);
        S.due("keep: NONE, SIZE", full().keep(4, 0, -1), NONE);
        S.due("keep: BAD, SIZE", full().keep(0, 2, -1), BAD);
        S.due("keep: PLACE, STORED", Scene.of("a-1").keep(0, 1, 0), PLACE);
        S.due("judge: NONE, CAST", full().judge(4, 1, 0), NONE);
        S.due("judge: CAST, it has none", full().judge(1, 1, 0), CAST);
        S.due("judge: CAST, below 0", full().judge(0, 1, -1), CAST);
        S.due("tape: NONE, BAD", full().tape(6, 5, 61), NONE);
        S.due("tape: NONE, SIZE", full().tape(6, 0, -1), NONE);
        S.due("tape: BAD, SIZE", full().tape(0, 5, -1), BAD);
        S.due("item: NONE", full().item(6, -1, 1), NONE);
        S.due("item: NOTHING, PLACE", full().item(5, -1, 1), NOTHING);
        S.due("shift: NONE, NOTHING", full().shift(6, 0, 5, 0, -1), NONE);
        S.due("shift: NONE, NOTHING", full().shift(5, 0, 6, 0, -1), NONE);
        S.due("shift: NOTHING, PLACE", full().shift(5, 0, 0, 0, -1), NOTHING);
        S.due("shift: NOTHING, PLACE", full().shift(0, 0, 5, 0, -1), NOTHING);
        S.due("shift: CAST, PLACE", full().shift(0, 0, 1, 0, -1), CAST);

        S.says("What is answered so changes nothing; what is asked changes nothing.");
        S.refused("put", AskedEdgesTest::full, x -> x.put(0, 0, 1, 1, 1), FULL);
        S.refused("tick", AskedEdgesTest::lastTime, x -> x.tick(1), STATE);
        S.refused("feed", AskedEdgesTest::fullText, x -> x.feed('1'), FULL);
        S.refused("plan", AskedEdgesTest::full, x -> x.plan(0, 0), FULL);
        S.refused("book", AskedEdgesTest::full, x -> x.book(0, 0), FULL);
        S.refused("undo", AskedEdgesTest::full, x -> x.undo(), STATE);
        for (int n = 0; n < 11; n++) {
            int i = n;
            asked("of", x -> x.of(0, i));
            asked("record", x -> x.record(0, 7, i));
            asked("segment", x -> x.segment(0, 0, i));
            asked("value", x -> x.value(0, i));
            asked("told", x -> x.told(i));
            asked("count", x -> x.count(i));
            asked("judge", x -> x.judge(0, i, 0));
            asked("peek", x -> x.peek(i, 0));
        }
    }

    private static void valuesAsBits() {
        S.says("VALUES are answered as floatToIntBits.");
        KeyedLogs x = new KeyedLogs();
        x.put(0, 0, -1, 1, 1);
        x.put(0, 1, 0, 0, 1);
        long minusOne = 0xffffffffbf800000L, nan = 0x7fc00000L;
        S.due("record", x.record(0, 0, 4), minusOne);
        S.due("value", x.value(0, 0), minusOne);
        S.due("map", x.map(0, 2), minusOne);
        S.due("replay", x.replay(0, 1, 0), minusOne);
        x.keep(0, 1, 2);
        S.due("kept", x.kept(0, 3), minusOne);
        S.due("record of NaN", x.record(0, 1, 4), nan);
        S.due("value of NaN", x.value(0, 1), nan);
        S.due("map of NaN", x.map(0, 3), nan);
        S.due("SUM that is NaN", x.map(0, 1), nan);
        S.due("replay of NaN", x.replay(0, 2, 1), nan);
        S.due("kept NaN", x.kept(1, 3), nan);
    }
}
