/** Ways to bring an object into a state, and to tell what a log looks like. */
final class Scene {
    static final int NONE = -1, BAD = -2, STATE = -3, FULL = -4;
    static final int NOTHING = -11, CAST = -12, PLACE = -13, SIZE = -14, STORED = -16;
    static final int MIN = Integer.MIN_VALUE, MAX = Integer.MAX_VALUE;
    static final long NO = Long.MIN_VALUE;
    /** No LOGS, and no MEMBERS. */
    static final int[] NO_LOG = {-1, 4, MIN, MAX};
    static final int[] NO_TAPE = {-1, 6, MIN, MAX};
    static final int[] NO_KEY = {-1, 26, MIN, MAX};

    private Scene() { }

    /** Records told by words: a letter, a - if it is a tomb, a SIZE. Their values are 1, 2, .. */
    static KeyedLogs come(KeyedLogs x, int log, String words) {
        int n = 0;
        for (String word : words.split(" ")) {
            n++;
            int key = word.charAt(0) - 'a';
            int size = word.charAt(word.length() - 1) - '0';
            if (word.charAt(1) == '-') {
                x.tomb(log, key, size);
            } else {
                x.put(log, key, n, 1, size);
            }
        }
        return x;
    }

    static KeyedLogs of(String words) {
        return come(new KeyedLogs(), 0, words);
    }

    /** Log 0 with n values of keys 0, 1, .. 25, 0, 1, .., each of that size. */
    static KeyedLogs filled(int n, int size) {
        KeyedLogs x = new KeyedLogs();
        for (int i = 0; i < n; i++) {
            x.put(0, i % 26, i, 1, size);
        }
        return x;
    }

    static KeyedLogs say(KeyedLogs x, String text) {
        for (int i = 0; i < text.length(); i++) {
            x.feed(text.charAt(i));
        }
        return x;
    }

    static int reading(String text) {
        return say(new KeyedLogs(), text).read();
    }

    /** TIME goes on by so many, be it more than a tick can be. */
    static KeyedLogs later(KeyedLogs x, int n) {
        for (int left = n; left > 0; left -= 99) {
            x.tick(Math.min(left, 99));
        }
        return x;
    }

    static KeyedLogs settings(KeyedLogs x, int grace, int keep, int age) {
        x.set(0, grace);
        x.set(1, keep);
        x.set(2, age);
        return x;
    }

    /** Its SEGMENTS, each as BASE and a colon and the OFFSETS of its RECORDS: "0:1,3 4:". */
    static String picture(KeyedLogs x, int log) {
        StringBuilder s = new StringBuilder();
        int many = x.of(log, 3);
        int o = x.near(log, 0, 1);
        for (int k = 0; k < many; k++) {
            s.append(k == 0 ? "" : " ").append(x.segment(log, k, 0)).append(':');
            String comma = "";
            for (; o >= 0 && x.record(log, o, 5) == k; o = x.near(log, o + 1, 1)) {
                s.append(comma).append(o);
                comma = ",";
            }
        }
        return s.toString();
    }

    /** Whose each LOG is, - for none: "2210". */
    static String owners(KeyedLogs x) {
        StringBuilder s = new StringBuilder();
        for (int log = 0; log < 4; log++) {
            int who = x.of(log, 7);
            s.append(who == -5 ? "-" : String.valueOf(who));
        }
        return s.toString();
    }

    static long bits(float f) {
        return Float.floatToIntBits(f);
    }

    static long wide(double d) {
        return Double.doubleToLongBits(d);
    }

    /** An object of which everything that can be asked is something. */
    static KeyedLogs rich() {
        KeyedLogs x = new KeyedLogs();
        come(x, 0, "a1 b2 c3 a4 b5 d1");
        x.tick(7);
        come(x, 0, "e-2 b9");
        x.compact(0);
        come(x, 0, "a3 f1");
        // two CLOSED ones that are not one yet: whoever COMPACTS it unasked is seen
        come(x, 1, "a-3 b1 z2 b-1 c4 d1 e1 f1 g2");
        x.put(2, 25, 1, 0, 9);
        x.put(2, 24, 0, 0, 9);
        say(x, "3k=-7/2;3k-;3l=9").read();
        x.join(1);
        x.join(3);
        x.poll(1);
        x.poll(3);
        x.seek(3, 1);
        settings(x, 3, 25, 20);
        x.plan(0, 1);
        x.plan(3, 9);
        x.plan(1, 0);
        x.plan(2, 1);
        x.book(0, 0);
        x.book(1, 4);
        x.keep(0, 0, 10);
        tapes(x);
        x.image();
        x.put(0, 6, 5, 3, 2);
        x.tick(2);
        x.join(0);
        return say(x, "0b");
    }

    /** Tape 0 shorts, 1 bytes, 2 shorts, 3 booleans, 4 longs; 5 holds nothing. */
    private static void tapes(KeyedLogs x) {
        x.tape(0, 1, 4);
        int[] offsets = {2, 3, 5, 6};
        for (int i = 0; i < 4; i++) {
            x.item(0, i, offsets[i]);
        }
        x.tape(1, 0, 3);
        x.item(1, 2, -5);
        x.tape(2, 1, 6);
        x.item(2, 0, 8);
        x.tape(3, 4, 2);
        x.item(3, 1, 1);
        x.tape(4, 3, 2);
        x.item(4, 0, 1L << 40);
    }
}
