import java.util.ArrayList;
import java.util.List;

/**
 * Calls that, together, tell all that an object holds. They come in rows, as an object is used for
 * 512 calls at most: each row is asked of an object of its own.
 */
final class Looks {
    interface Call {
        long on(KeyedLogs x);
    }

    record Look(String name, Call call) { }

    private static final int ROW = 140;

    final List<List<Look>> rows = new ArrayList<>();
    private final List<Look> all = new ArrayList<>();

    Looks() {
        whole();
        logs();
        records();
        restOfAll();
        for (int i = 0; i < all.size(); i += ROW) {
            rows.add(List.copyOf(all.subList(i, Math.min(i + ROW, all.size()))));
        }
        all.clear();
        changes();
        whole();
        rows.add(List.copyOf(all));
    }

    private void look(String name, Call call) {
        all.add(new Look(name, call));
    }

    private void whole() {
        for (int what = 0; what < 6; what++) {
            int w = what;
            look("told " + w, x -> x.told(w));
        }
        for (int what = 0; what < 5; what++) {
            int w = what;
            look("count " + w, x -> x.count(w));
        }
        for (int what = 0; what < 2; what++) {
            int w = what;
            look("ends " + w, x -> x.ends(w));
        }
        look("looked", x -> x.looked());
        for (int log = 0; log < 4; log++) {
            for (int what = 0; what < 11; what++) {
                int l = log, w = what;
                look("of " + l + " " + w, x -> x.of(l, w));
            }
        }
    }

    private void logs() {
        for (int log = 0; log < 4; log++) {
            int l = log;
            for (int what = 0; what < 5; what++) {
                int w = what;
                look("map " + l + " " + w, x -> x.map(l, w));
            }
            for (int what = 0; what < 2; what++) {
                int w = what;
                look("would " + l + " " + w, x -> x.would(l, w));
                look("odds " + l + " " + w, x -> x.odds(l, w));
                look("near " + l + " " + w, x -> x.near(l, 5, w));
                look("near the end " + l + " " + w, x -> x.near(l, 199, w));
            }
            look("replay " + l, x -> x.replay(l, 999, -1));
            for (int k = 0; k < 8; k++) {
                for (int what = 0; what < 4; what++) {
                    int s = k, w = what;
                    look("segment " + l + " " + s + " " + w, x -> x.segment(l, s, w));
                }
                int n = k;
                look("oldest " + l + " " + n, x -> x.oldest(l, n));
                look("need " + l + " " + n, x -> x.need(l, n));
                look("replay " + l + " " + n, x -> x.replay(l, n, -1));
            }
        }
    }

    private void records() {
        int[] offsets = {0, 1, 2, 3, 4, 5, 6, 7, 8, 9, 10, 11, 12, 198, 199};
        for (int log = 0; log < 4; log++) {
            int l = log;
            for (int o : offsets) {
                for (int what = 0; what < 6; what++) {
                    int w = what;
                    look("record " + l + " " + o + " " + w, x -> x.record(l, o, w));
                }
            }
            for (int key = 0; key < 26; key++) {
                int k = key;
                look("value " + l + " " + k, x -> x.value(l, k));
            }
        }
    }

    private void restOfAll() {
        for (int member = 0; member < 4; member++) {
            for (int what = 0; what < 3; what++) {
                int m = member, w = what;
                look("member " + m + " " + w, x -> x.member(m, w));
            }
        }
        int[] places = {0, 1, 2, 3, 4, 5, 6, 7, 8, 59};
        for (int i : places) {
            for (int what = 0; what < 4; what++) {
                int w = what;
                look("kept " + i + " " + w, x -> x.kept(i, w));
            }
            for (int tape = 0; tape < 6; tape++) {
                int t = tape;
                look("peek " + t + " " + i, x -> x.peek(t, i));
            }
        }
        for (int tape = 0; tape < 6; tape++) {
            int t = tape;
            look("judge " + t, x -> x.judge(0, t, 0));
        }
    }

    /** What only later changes bring to light: THE TEXT's signs, the rows of plan and book, the image. */
    private void changes() {
        look("feed =", x -> x.feed('='));
        look("feed 7", x -> x.feed('7'));
        look("read", x -> x.read());
        for (int log = 0; log < 4; log++) {
            int l = log;
            look("put " + l, x -> x.put(l, 3, 2, 3, 4));
            look("tomb " + l, x -> x.tomb(l, 1, 1));
        }
        look("tick", x -> x.tick(2));
        look("plan", x -> x.plan(3, 1));
        look("book", x -> x.book(2, 0));
        for (int member = 0; member < 4; member++) {
            int m = member;
            look("poll " + m, x -> x.poll(m));
        }
        for (int log = 0; log < 4; log++) {
            int l = log;
            look("compact " + l, x -> x.compact(l));
            look("retain " + l, x -> x.retain(l));
        }
        look("looked", x -> x.looked());
        look("keep", x -> x.keep(0, 1, 9));
        look("kept", x -> x.kept(1, 0));
        look("join", x -> x.join(2));
        look("leave", x -> x.leave(1));
        whole();
        look("undo", x -> x.undo());
    }
}
