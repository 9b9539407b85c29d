import java.io.IOException;
import java.lang.management.ManagementFactory;
import java.lang.reflect.Constructor;
import java.lang.reflect.Field;
import java.lang.reflect.Method;
import java.lang.reflect.Modifier;
import java.nio.file.Files;
import java.nio.file.Path;
import java.util.Set;
import java.util.TreeSet;

/** The public face, and the room that calls take. */
public final class FaceTest {
    private static final Due DUE = new Due();
    private static final com.sun.management.ThreadMXBean BEAN =
            (com.sun.management.ThreadMXBean) ManagementFactory.getThreadMXBean();
    private static final long THREAD = Thread.currentThread().getId();
    private static final String[] FACE = {"feed 5", "end 1", "camp 0", "rule 0", "force 1", "tent 2", "cell 2", "step 0",
        "whistle 1", "pitch 2", "steady 2", "bush 1", "undo 0", "ahead 3", "first 1", "way 1", "reach 1", "knowsAll 1",
        "most 2", "cut 2", "hide 3", "wake 2", "pence 2", "game 3", "ring 1", "note 2", "ruled 1", "look 1", "seed 1",
        "winds 4", "count 1", "image 1", "back 1"};

    public static void main(String[] args) throws IOException {
        face();
        asWritten();
        room();
        DUE.close();
    }

    private static void face() {
        Set<String> open = new TreeSet<>();
        for (Method method : AskedCamp.class.getDeclaredMethods()) {
            if (!Modifier.isPrivate(method.getModifiers())) {
                open.add(method.getName() + " " + method.getParameterCount());
                DUE.due("public " + method, Modifier.isPublic(method.getModifiers()) ? 1 : 0, 1);
                DUE.due("int " + method, method.getReturnType() == int.class ? 1 : 0, 1);
                for (Class<?> parameter : method.getParameterTypes()) {
                    DUE.due("takes int, " + method, parameter == int.class ? 1 : 0, 1);
                }
            }
        }
        DUE.due("methods " + open, open.equals(new TreeSet<>(Set.of(FACE))) ? 1 : 0, 1);
        int fields = 0;
        for (Field field : AskedCamp.class.getDeclaredFields()) {
            fields += Modifier.isPrivate(field.getModifiers()) ? 0 : 1;
        }
        DUE.due("open fields", fields, 1);
        DUE.due("NONE", AskedCamp.NONE, -1);
        Constructor<?>[] made = AskedCamp.class.getDeclaredConstructors();
        DUE.due("constructors", made.length, 1);
        DUE.due("a public constructor", Modifier.isPublic(made[0].getModifiers()) ? 1 : 0, 1);
        DUE.due("a constructor of nothing", made[0].getParameterCount(), 0);
        DUE.due("final", Modifier.isFinal(AskedCamp.class.getModifiers()) ? 1 : 0, 1);
    }

    /** Each line of the face as the document writes it, with the names of the parameters. */
    private static void asWritten() throws IOException {
        String document = Files.readString(Path.of("../shared/DOC.md"));
        String source = Files.readString(Path.of("src/main/java/AskedCamp.java"));
        int lines = 0;
        for (String line : document.split("\n")) {
            if (line.startsWith("    public ")) {
                lines++;
                boolean constant = line.contains("=");
                String due = constant ? line : line.replace(";", " {");
                DUE.due("in the source:" + due, source.contains("\n" + due + "\n") ? 1 : 0, 1);
            }
        }
        DUE.due("lines of the face", lines, FACE.length + 2);
    }

    private static long allocated() {
        return BEAN.getThreadAllocatedBytes(THREAD);
    }

    /** Rows are made in the constructor and used again: calls take no room. */
    private static void room() {
        // the first round loads classes, which is no room of the calls
        everyCall(new AskedCamp());
        long before = allocated();
        AskedCamp x = new AskedCamp();
        long made = allocated() - before;
        DUE.due("the constructor's bytes, " + made, made < 64000 ? 1 : 0, 1);
        before = allocated();
        long ofAsking = allocated() - before;
        before = allocated();
        everyCall(x);
        long taken = allocated() - before - ofAsking;
        DUE.due("bytes taken by calls", taken, 0);
        DUE.due("rules told", x.count(2), 1);
        DUE.due("side", x.count(0), 6);
    }

    private static int everyCall(AskedCamp x) {
        x.feed(0x63616d70, 0x20362031, 0x343b7465, 0x6e742033, 0x35203500);
        x.end(19);
        int sum = x.camp();
        x.feed(0x676f2031, 0x2b6e6561, 0x72206966, 0x206e6f74, 0x20726f77);
        x.feed(0x3e32206f, 0x72206365, 0x6c6c3d31, 0x34000000, 0);
        x.end(33);
        sum += x.rule() + x.force(0) + x.step() + x.whistle(3) + x.pitch(0, 8) + x.steady(0, 4) + x.bush(2) + x.undo();
        sum += x.ahead(0, 9, 0) + x.first(0) + x.way(8) + x.reach(9) + x.knowsAll(0) + x.most(9, 0) + x.cut(0, 1);
        sum += x.hide(0, 30, 0) + x.wake(30, 0) + x.pence(9, 0) + x.game(0, 4, 0) + x.ring(0) + x.note(3, 3) + x.ruled(0);
        sum += x.look(0) + x.seed(4) + x.winds(10, 60, 50, 0) + x.count(4) + x.image(0) + x.back(0) + x.tent(0, 0);
        return sum + x.cell(0, 0);
    }
}
