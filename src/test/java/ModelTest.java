import java.lang.reflect.Method;
import java.lang.reflect.Modifier;
import java.util.ArrayList;
import java.util.Comparator;
import java.util.List;
import java.util.Random;

/** Long runs of calls, the same ones every time, on KeyedLogs and on the Model side by side. */
public final class ModelTest {
    private static final int RUNS = 900, CALLS = 512;
    private static final int[] EDGES = {Integer.MIN_VALUE, Integer.MAX_VALUE, -1, 0, 1, -2};
    private static final String SIGNS = "0123456789abcz;;=--//: AZ{.";

    private final Check check = new Check();
    private final List<Method> calls = new ArrayList<>();
    private Random random;
    private KeyedLogs real;
    private Model model;
    /** Calls of the real one, helpers' too: what it answers behind its 512th is free. */
    private int used;
    private int logs;
    private int keys;
    private StringBuilder story;

    public static void main(String[] args) throws Exception {
        ModelTest test = new ModelTest();
        for (Method m : KeyedLogs.class.getDeclaredMethods()) {
            if (Modifier.isPublic(m.getModifiers())) {
                test.calls.add(m);
            }
        }
        test.calls.sort(Comparator.comparing(Method::getName));
        for (int run = 0; run < RUNS && test.check.allRight(); run++) {
            test.run(run);
        }
        test.check.end("ModelTest");
    }

    private void run(int seed) throws Exception {
        random = new Random(seed);
        real = new KeyedLogs();
        model = new Model();
        logs = 1 + random.nextInt(4);
        keys = 2 + random.nextInt(25);
        story = new StringBuilder();
        used = 0;
        int bias = random.nextInt(5);
        while (used < CALLS && check.allRight()) {
            int dice = random.nextInt(100);
            if (dice < 15 + 15 * bias && used < 400) {
                call("put", log(), key(), num(), num(), size());
            } else if (dice < 20 + 15 * bias && used < 450) {
                call("tomb", log(), key(), size());
            } else if (dice == 99 && used < 400) {
                text();
            } else if (dice == 98 && used < 450) {
                offsetsOnTape();
            } else {
                Method m = calls.get(random.nextInt(calls.size()));
                call(m.getName(), argumentsOf(m));
            }
        }
        if (!check.allRight()) {
            System.out.println("run " + seed + ":" + story);
        }
    }

    private void text() throws Exception {
        int clauses = 1 + random.nextInt(14);
        StringBuilder text = new StringBuilder();
        for (int i = 0; i < clauses; i++) {
            text.append(i == 0 ? "" : ";").append(random.nextInt(4));
            text.append((char) ('a' + random.nextInt(26)));
            if (random.nextInt(3) == 0) {
                text.append('-');
            } else {
                text.append(random.nextInt(4) == 0 ? "=-" : "=");
                text.append(random.nextInt(random.nextInt(20) == 0 ? 20000 : 3000));
                if (random.nextBoolean()) {
                    text.append('/').append(random.nextInt(random.nextInt(20) == 0 ? 200 : 100));
                }
            }
        }
        if (random.nextInt(3) == 0) {
            int at = random.nextInt(text.length());
            text.setCharAt(at, SIGNS.charAt(random.nextInt(SIGNS.length())));
        }
        if (random.nextInt(5) == 0) {
            text.setLength(random.nextInt(text.length() + 1));
        }
        for (int n = 0; n < text.length(); n++) {
            call("feed", (int) text.charAt(n));
        }
        call("read");
    }

    private void offsetsOnTape() throws Exception {
        int log = random.nextInt(logs), tape = random.nextInt(6), i = random.nextInt(3);
        int n = 0, from = 0;
        call("tape", tape, 1, random.nextInt(61));
        for (; n < 25; n++) {
            int offset = model.near(log, from, 1);
            if (offset < 0) {
                break;
            }
            call("item", tape, i + n, (long) (random.nextInt(40) == 0 ? -3 : offset));
            from = offset + 1;
        }
        call("judge", log, tape, i);
    }

    private void call(String name, Object... arguments) throws Exception {
        for (Method m : calls) {
            if (m.getName().equals(name) && used < CALLS) {
                used++;
                long got = ((Number) m.invoke(real, arguments)).longValue();
                Method twin = Model.class.getMethod(name, m.getParameterTypes());
                long want = ((Number) twin.invoke(model, arguments)).longValue();
                String said = name + java.util.Arrays.toString(arguments);
                story.append("\n  ").append(said).append(" ").append(want);
                check.due(said, got, want);
            }
        }
    }

    private int log() {
        return random.nextInt(60) == 0 ? edge(4) : random.nextInt(logs);
    }

    private int key() {
        return random.nextInt(60) == 0 ? edge(26) : random.nextInt(keys);
    }

    private int size() {
        return random.nextInt(60) == 0 ? edge(10) : 1 + random.nextInt(9);
    }

    private int member() {
        return random.nextInt(60) == 0 ? edge(4) : random.nextInt(4);
    }

    private int num() {
        return switch (random.nextInt(10)) {
            case 0 -> 0;
            case 1 -> random.nextInt();
            case 2 -> edge(16777217);
            default -> random.nextInt(40) - 12;
        };
    }

    private int small(int below) {
        return random.nextInt(20) == 0 ? edge(below) : random.nextInt(below);
    }

    private int edge(int beyond) {
        int pick = random.nextInt(EDGES.length + 1);
        return pick == EDGES.length ? beyond : EDGES[pick];
    }

    private Object[] argumentsOf(Method m) {
        return switch (m.getName()) {
            case "put" -> new Object[] {log(), key(), num(), num(), size()};
            case "tomb" -> new Object[] {log(), key(), size()};
            case "tick" -> new Object[] {small(random.nextInt(4) == 0 ? 100 : 8)};
            case "set" -> {
                int what = small(3);
                yield new Object[] {what, random.nextInt(3) > 0 ? small(100) : small(1000)};
            }
            case "compact", "retain" -> new Object[] {log()};
            case "feed" -> new Object[] {random.nextInt(9) == 0 ? edge(128)
                    : SIGNS.charAt(random.nextInt(SIGNS.length()))};
            case "of" -> new Object[] {log(), small(11)};
            case "record" -> new Object[] {log(), small(60), small(6)};
            case "segment" -> new Object[] {log(), small(12), small(4)};
            case "value" -> new Object[] {log(), key()};
            case "map" -> new Object[] {log(), small(5)};
            case "replay" -> new Object[] {log(), small(200), random.nextInt(3) == 0 ? -1 : key()};
            case "near" -> new Object[] {log(), small(200), small(2)};
            case "oldest" -> new Object[] {log(), small(60)};
            case "would" -> new Object[] {log(), small(2)};
            case "need" -> new Object[] {log(), small(random.nextBoolean() ? 201 : 30)};
            case "join", "leave", "poll" -> new Object[] {member()};
            case "seek" -> new Object[] {log(), small(30)};
            case "member" -> new Object[] {member(), small(3)};
            case "told" -> new Object[] {small(6)};
            case "odds" -> new Object[] {log(), small(2)};
            case "plan" -> {
                int what = random.nextInt(30) == 0 ? -1 : small(4);
                yield new Object[] {what, what == 3 ? small(100) : member()};
            }
            case "ends" -> new Object[] {small(2)};
            case "book" -> {
                int log = random.nextInt(20) == 0 ? -1 : log();
                int start = log >= 0 && log < 4 && random.nextInt(3) > 0 ? model.of(log, 1) : small(201);
                yield new Object[] {log, start};
            }
            case "keep" -> new Object[] {log(), small(2), small(61)};
            case "kept" -> new Object[] {small(30), small(4)};
            case "judge" -> new Object[] {log(), small(6), small(5)};
            case "count" -> new Object[] {small(5)};
            case "tape" -> new Object[] {small(6), random.nextInt(9) == 0 ? -1 : small(5), small(61)};
            case "item" -> new Object[] {small(6), small(30), random.nextBoolean() ? random.nextLong()
                    : (long) small(300)};
            case "peek" -> new Object[] {small(6), small(30)};
            case "shift" -> new Object[] {small(6), small(12), small(6), small(12), small(12)};
            default -> new Object[0];
        };
    }
}
