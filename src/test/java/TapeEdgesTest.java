import java.util.function.Consumer;
import java.util.function.ToIntFunction;

/** The edges of a new object, of the tape and of the rule in force: promises 1, 2, 3 and 6. */
public final class TapeEdgesTest {
    private static final Edges EDGES = new Edges();

    public static void main(String[] args) {
        newObject();
        nothingWithoutCamp();
        fedUpToFull();
        fullTakesNone();
        highestByteFirst();
        behindTheTape();
        endAtItsEdges();
        endAlone();
        forceAtItsEdges();
        forceNone();
        EDGES.close();
    }

    private static void newObject() {
        EDGES.sentence("No CAMP, no RULES, none IN FORCE.");
        AskedCamp x = new AskedCamp();
        int[] want = {0, 0, 0, -1, 0, -1, 0, 0, 0, 0, 0, 0, 0, 0};
        for (int what = 0; what < want.length; what++) {
            EDGES.is("count(" + what + ")", x.count(what), want[what]);
        }
        EDGES.is("undo()", x.undo(), -1);
        for (int k = 0; k < 4; k++) {
            EDGES.is("back(" + k + ")", x.back(k), -1);
        }
        EDGES.is("force(0)", x.force(0), -2);
        EDGES.is("rule() of the empty tape", x.rule(), Tape.fault(0, 0));
        EDGES.is("camp() of the empty tape", x.camp(), Tape.fault(0, 0));
        EDGES.is("feed", x.feed(0, 0, 0, 0, 0), 20);
    }

    private static void without(String call, ToIntFunction<AskedCamp> asked, int want) {
        EDGES.leaves(call, Looks::campless, asked, want);
    }

    private static void nothingWithoutCamp() {
        EDGES.sentence("NONE without these, or a CAMP");
        without("tent", x -> x.tent(0, 0), -1);
        without("cell", x -> x.cell(0, 0), -1);
        without("step", x -> x.step(), -1);
        without("whistle", x -> x.whistle(0), -1);
        without("pitch", x -> x.pitch(0, 0), -1);
        without("steady", x -> x.steady(0, 1), -1);
        without("bush", x -> x.bush(0), -1);
        without("undo", x -> x.undo(), -1);
        without("ahead", x -> x.ahead(0, 0, 0), -1);
        without("first", x -> x.first(0), -1);
        without("way", x -> x.way(0), -1);
        without("reach", x -> x.reach(0), -1);
        without("knowsAll", x -> x.knowsAll(0), -3);
        without("most", x -> x.most(1, 0), -1);
        without("most", x -> x.most(1, 1), -1);
        without("cut", x -> x.cut(0, 0), -1);
        without("hide", x -> x.hide(0, 1, 0), -1);
        without("wake", x -> x.wake(1, 0), -2);
        without("wake", x -> x.wake(1, 1), -2);
        without("pence", x -> x.pence(0, 0), -1);
        without("game", x -> x.game(0, 1, 0), -1);
        without("ring", x -> x.ring(0), -1);
        without("note", x -> x.note(0, 0), -2);
        without("ruled", x -> x.ruled(0), -3);
        without("look", x -> x.look(0), -1);
        without("winds", x -> x.winds(1, 1, 0, 0), -1);
        without("where it is", x -> x.count(5), -1);
    }

    /** A tape of so many bytes: a rule, and blanks. */
    private static AskedCamp taped(int size) {
        return Edges.made(x -> Tape.put(x, size < 4 ? " ".repeat(size) : Tape.padded("go 1", size)));
    }

    private static int feedSigns(AskedCamp x) {
        return x.feed(0x21212121, 0x21212121, 0x21212121, 0x21212121, 0x21212121);
    }

    private static void fedUpToFull() {
        EDGES.sentence("Twenty bytes come behind the TAPE: how many it has; NONE, if it would have more than 400.");
        for (int size = 0; size <= 400; size++) {
            boolean room = size <= 380;
            AskedCamp x = taped(size);
            EDGES.is("feed at " + size, feedSigns(x), room ? size + 20 : -1);
            EDGES.is("bytes then, at " + size, x.count(13), room ? size + 20 : size);
        }
    }

    private static void fullTakesNone() {
        EDGES.sentence("NONE, and none comes, if it would have more than 400.");
        for (int size : new int[] {381, 390, 399, 400}) {
            AskedCamp x = taped(size);
            feedSigns(x);
            EDGES.is("the text is as it was, at " + size, x.rule(), 0);
            Consumer<AskedCamp> setup = y -> {
                Looks.rich(y);
                Tape.put(y, Tape.padded("camp 2 1;tent 3 2", size));
            };
            EDGES.leaves("feed at " + size, setup, TapeEdgesTest::feedSigns, -1);
        }
    }

    private static void highestByteFirst() {
        EDGES.sentence("Twenty bytes come behind the TAPE, of each number the highest first");
        for (int place = 0; place < 20; place++) {
            for (int sign : new int[] {0, 31, 33, 127, 128, 160, 255}) {
                int[] five = Tape.five(" ".repeat(place) + (char) sign + " ".repeat(19 - place), 0);
                AskedCamp x = new AskedCamp();
                x.feed(five[0], five[1], five[2], five[3], five[4]);
                EDGES.is("the byte " + sign + " at " + place, x.rule(), Tape.fault(place, 0));
            }
        }
    }

    private static void behindTheTape() {
        EDGES.sentence("Twenty bytes come behind the TAPE");
        AskedCamp x = new AskedCamp();
        int[] first = Tape.five("camp 2 0", 0);
        int[] second = Tape.five(";tent 1 1", 0);
        x.feed(first[0], first[1], first[2], first[3], first[4]);
        x.end(8);
        EDGES.is("behind what was left of it", x.feed(second[0], second[1], second[2], second[3], second[4]), 28);
        x.end(17);
        EDGES.is("as one text", x.camp(), 1);
    }

    private static void endAtItsEdges() {
        EDGES.sentence("n; NONE, and nothing happens, if it has not so many, or n is below 0.");
        for (int size : new int[] {0, 1, 24, 399, 400}) {
            Consumer<AskedCamp> setup = x -> {
                Looks.rich(x);
                Tape.put(x, size < 8 ? " ".repeat(size) : Tape.padded("camp 2 1", size));
            };
            EDGES.range("end of " + size, setup, (x, n) -> x.end(n), 0, size, -1);
            EDGES.is("end at all of it", Edges.made(setup).end(size), size);
            EDGES.is("end at none of it", Edges.made(setup).end(0), 0);
        }
    }

    private static void endAlone() {
        EDGES.sentence("The TAPE has its first n bytes alone");
        AskedCamp x = new AskedCamp();
        Tape.put(x, "go 1;go");
        EDGES.is("end(4)", x.end(4), 4);
        EDGES.is("what was cut off does not come again", x.end(7), -1);
        EDGES.is("bytes", x.count(13), 4);
        EDGES.is("rule()", x.rule(), 0);
        Tape.put(x, "go 1;go");
        x.end(0);
        EDGES.is("of none", x.rule(), Tape.fault(0, 0));
        String rule = "go 12 + cell if not [ row <= 12 ] ; go 7";
        String camp = "camp 3 8 ; tent 12 13 ; bush 1";
        for (int n = 0; n <= rule.length(); n++) {
            int end = n;
            int cut = Edges.made(y -> Tape.put(y, rule.substring(0, end))).rule();
            EDGES.is("a RULE cut off at " + n, endAndRead(rule, n, true), cut);
        }
        for (int n = 0; n <= camp.length(); n++) {
            int end = n;
            int cut = Edges.made(y -> Tape.put(y, camp.substring(0, end))).camp();
            EDGES.is("a CAMP cut off at " + n, endAndRead(camp, n, false), cut);
        }
    }

    /** The answer to a text whose last bytes were cut off by end alone, and so may still lie about. */
    private static int endAndRead(String text, int n, boolean asRule) {
        AskedCamp x = new AskedCamp();
        Tape.put(x, text);
        x.end(n);
        return asRule ? x.rule() : x.camp();
    }

    private static void forceAtItsEdges() {
        EDGES.sentence("A RULE is IN FORCE: which was; -2, and nothing happens, if there is none such.");
        for (int rules = 0; rules <= 6; rules++) {
            EDGES.range("force of " + rules, Looks.withRules(rules), (x, n) -> x.force(n), -1, rules - 1, -2);
            AskedCamp x = Edges.made(Looks.withRules(rules));
            for (int rule = 0; rule < rules; rule++) {
                EDGES.is("which was", x.force(rule), rule == 0 ? rules - 1 : rule - 1);
                EDGES.is("which is", x.count(3), rule);
            }
        }
    }

    private static void forceNone() {
        EDGES.sentence("A RULE is IN FORCE (NONE: none)");
        EDGES.leaves("force(NONE), which it was", Looks.withRules(0), x -> x.force(-1), -1);
        AskedCamp x = Edges.camp("camp 3 4;tent 8 3", "go 1");
        EDGES.is("force(NONE)", x.force(-1), 0);
        EDGES.is("none is", x.count(3), -1);
        EDGES.is("it goes without a rule", x.step(), 5);
        EDGES.is("none was", x.force(0), -1);
        EDGES.is("it goes by the rule", x.step(), 2);
    }
}
