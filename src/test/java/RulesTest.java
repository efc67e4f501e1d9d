import java.lang.reflect.Constructor;
import java.lang.reflect.Field;
import java.lang.reflect.Method;
import java.lang.reflect.Modifier;
import java.nio.file.Files;
import java.nio.file.Path;
import java.util.Set;
import java.util.TreeSet;
import java.util.regex.Matcher;
import java.util.regex.Pattern;

/** What LANGUAGE.md asks of the file and of the room, as far as a program can look at it. */
public final class RulesTest {
    private static final Check CHECK = new Check();
    private static final String FACE = "put(int,int,int,int,int)int tomb(int,int,int)int tick(int)int "
            + "set(int,int)int compact(int)int retain(int)int feed(int)int read()int of(int,int)int "
            + "record(int,int,int)long segment(int,int,int)int value(int,int)long map(int,int)long "
            + "replay(int,int,int)long near(int,int,int)int oldest(int,int)int would(int,int)int "
            + "need(int,int)int join(int)int leave(int)int poll(int)int seek(int,int)int "
            + "member(int,int)int told(int)int odds(int,int)long plan(int,int)int ends(int)int "
            + "book(int,int)int looked()int keep(int,int,int)int kept(int,int)long "
            + "judge(int,int,int)int image()int undo()int count(int)int tape(int,int,int)int "
            + "item(int,int,long)int peek(int,int)long shift(int,int,int,int,int)int";
    private static final Pattern CALL = Pattern.compile("    public (int|long) (\\w+)\\((.*)\\);");
    private static final String[] RULED_OUT = {"->", "::", "import ", "Float.", "Double.", "synchronized",
        "assert ", "finally", "catch", "throw", "Exact(", "System.out", "Random", "nanoTime",
        "currentTime", "Object ", "instanceof", "protected ", "static {"};

    public static void main(String[] args) throws Exception {
        face();
        documentFace();
        names();
        source();
        room();
        CHECK.end("RulesTest");
    }

    private static void face() {
        Set<String> due = new TreeSet<>(Set.of(FACE.split(" ")));
        Set<String> there = new TreeSet<>();
        for (Method m : KeyedLogs.class.getDeclaredMethods()) {
            if (!Modifier.isPrivate(m.getModifiers())) {
                there.add(signature(m));
                CHECK.that(m + " is public and no static", m.getModifiers() == Modifier.PUBLIC);
            }
        }
        CHECK.that("the face is " + due + ", and not " + there, due.equals(there));
        Set<String> constants = new TreeSet<>();
        for (Field f : KeyedLogs.class.getDeclaredFields()) {
            if (!Modifier.isPrivate(f.getModifiers())) {
                constants.add(f.getName() + " " + Modifier.toString(f.getModifiers()) + " " + f.getType());
            }
        }
        CHECK.that("the constants " + constants, constants.equals(Set.of(
                "NONE public static final int", "BAD public static final int",
                "STATE public static final int", "FULL public static final int",
                "NO public static final long")));
        CHECK.that("their numbers", KeyedLogs.NONE == -1 && KeyedLogs.BAD == -2 && KeyedLogs.STATE == -3
                && KeyedLogs.FULL == -4 && KeyedLogs.NO == Long.MIN_VALUE);
        Constructor<?>[] made = KeyedLogs.class.getDeclaredConstructors();
        CHECK.that("one constructor", made.length == 1 && made[0].getModifiers() == Modifier.PUBLIC
                && made[0].getParameterCount() == 0);
        CHECK.that("public and final", KeyedLogs.class.getModifiers() == (Modifier.PUBLIC | Modifier.FINAL));
    }

    /** The face above is the document's, sign by sign, where the document is there. */
    private static void documentFace() throws Exception {
        Path document = Path.of("../shared/DOC.md");
        if (!Files.exists(document)) {
            return;
        }
        StringBuilder face = new StringBuilder();
        for (String line : Files.readAllLines(document)) {
            Matcher call = CALL.matcher(line);
            if (call.matches()) {
                face.append(face.length() == 0 ? "" : " ").append(call.group(2)).append('(')
                        .append(call.group(3).replaceAll("(int|long) \\w+(, )?", "$1,").replaceAll(",$", ""))
                        .append(')').append(call.group(1));
            }
        }
        CHECK.alike("the document's face", face.toString(), FACE);
    }

    private static String signature(Method m) {
        StringBuilder s = new StringBuilder(m.getName()).append("(");
        for (Class<?> p : m.getParameterTypes()) {
            s.append(s.charAt(s.length() - 1) == '(' ? "" : ",").append(p);
        }
        return s.append(")").append(m.getReturnType()).toString();
    }

    private static void names() {
        Set<String> open = new TreeSet<>();
        for (Method m : KeyedLogs.class.getDeclaredMethods()) {
            if (Modifier.isPublic(m.getModifiers())) {
                open.add(m.getName());
            }
        }
        hiddenNames(KeyedLogs.class, open);
        Class<?>[] inside = KeyedLogs.class.getDeclaredClasses();
        CHECK.that("twelve classes at most", inside.length < 12);
        for (Class<?> c : inside) {
            CHECK.that(c + " is static", Modifier.isStatic(c.getModifiers()));
            hiddenNames(c, open);
        }
    }

    private static void hiddenNames(Class<?> c, Set<String> open) {
        int fields = 0;
        for (Method m : c.getDeclaredMethods()) {
            CHECK.that(m + " has a name of its own",
                    Modifier.isPublic(m.getModifiers()) || !open.contains(m.getName()));
            CHECK.that(m + " has seven parameters at most", m.getParameterCount() <= 7);
        }
        for (Field f : c.getDeclaredFields()) {
            fields += Modifier.isStatic(f.getModifiers()) ? 0 : 1;
            CHECK.that(f + " is final if static",
                    !Modifier.isStatic(f.getModifiers()) || Modifier.isFinal(f.getModifiers()));
        }
        CHECK.that(c + " has twenty fields at most", fields <= 20);
    }

    private static void source() throws Exception {
        String source = Files.readString(Path.of("src/main/java/KeyedLogs.java"));
        String code = source.replaceAll("(?s)/\\*.*?\\*/", "").replaceAll("//[^\n]*", "");
        for (String word : RULED_OUT) {
            CHECK.that("no '" + word.trim() + "' in the code", !code.contains(word));
        }
        CHECK.that("plain signs alone", source.chars().allMatch(c -> c == '\n' || c >= 32 && c < 127));
    }

    /** A run of 512 calls that copy and ask: it must make next to nothing beyond the object. */
    private static void room() {
        com.sun.management.ThreadMXBean threads =
                (com.sun.management.ThreadMXBean) java.lang.management.ManagementFactory.getThreadMXBean();
        long me = Thread.currentThread().getId();
        dearRun();
        long ahead = threads.getThreadAllocatedBytes(me);
        dearRun();
        long made = threads.getThreadAllocatedBytes(me) - ahead;
        CHECK.that("a run made " + made + " bytes", made < 200_000);
    }

    private static void dearRun() {
        KeyedLogs x = new KeyedLogs();
        for (int i = 0; i < 100; i++) {
            x.put(i & 3, i % 26, i, 3, 1);
        }
        x.plan(0, 0);
        for (int i = 0; i < 41; i++) {
            x.image();
            x.ends(0);
            x.undo();
            x.need(0, 50);
            x.map(0, 4);
            x.oldest(0, 20);
            x.tape(0, 3, 60);
            x.keep(0, 0, 60);
            x.odds(0, 0);
            x.would(0, 0);
        }
    }
}
