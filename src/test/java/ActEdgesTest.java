import java.util.function.Consumer;
import java.util.function.ToIntFunction;

/** The edges of how it stands, of acts and of undoing them: promises 7 to 14. */
public final class ActEdgesTest {
    private static final Edges EDGES = new Edges();

    public static void main(String[] args) {
        beside();
        tent();
        cell();
        stepWithoutCamp();
        stepUpTo999();
        beyond999();
        whistleToCells();
        whistleToItself();
        whistleWithoutWay();
        whistleToTheLeast();
        whistleAsksNobody();
        pitch();
        pitchToAnother();
        steadyMuch();
        steadyAtMost();
        bush();
        bushOrNone();
        lastTwenty();
        lastFirst();
        undoNone();
        undoneAsItWas();
        refusedIsNoAct();
        last512();
        EDGES.close();
    }

    private static Consumer<AskedCamp> told(String camp) {
        return x -> {
            Tape.rule(x, "go 9 - cell");
            Tape.camp(x, camp);
            x.steady(0, 1);
            x.note(1, 1);
            x.image(3);
        };
    }

    private static void beside() {
        EDGES.sentence("beside one are that ahead of it and behind it in its row, and those in the rows ahead and behind");
        for (int side = 2; side <= 6; side++) {
            for (int cell = 0; cell < side * side; cell++) {
                AskedCamp x = Edges.camp("camp " + side + " " + cell);
                int near = 1;
                for (int other = 0; other < side * side; other++) {
                    int apart = Math.abs(cell / side - other / side) + Math.abs(cell % side - other % side);
                    near += apart == 1 ? 1 : 0;
                    EDGES.is("SIDE " + side + ", from " + cell + " to " + other, x.way(other), apart);
                }
                EDGES.is("SIDE " + side + ", beside " + cell, x.reach(1), near);
            }
        }
    }

    private static void tent() {
        EDGES.sentence("Of a TENT what 0: its CELL, 1: NERVE, 2: how often asked, 3: what it KNOWS. NONE without these.");
        for (int tents = 1; tents <= 6; tents++) {
            Consumer<AskedCamp> setup = told("camp 3 0" + ";tent 8 5".repeat(tents));
            for (int i = 0; i < 4; i++) {
                int what = i;
                EDGES.range("tent(n, " + what + ") of " + tents, setup, (x, n) -> x.tent(n, what), 0, tents - 1, -1);
            }
            EDGES.range("tent(0, n)", setup, (x, n) -> x.tent(0, n), 0, 3, -1);
        }
        AskedCamp x = Edges.camp("camp 3 0");
        EDGES.is("of none", x.tent(0, 0) + x.tent(-1, 0), -2);
        AskedCamp fewer = Edges.camp("camp 3 0" + ";tent 8 5".repeat(6));
        Tape.camp(fewer, "camp 3 0;tent 8 5");
        EDGES.is("not one of an older CAMP", fewer.tent(1, 0) + fewer.tent(5, 0), -2);
    }

    private static void cell() {
        EDGES.sentence("Of a CELL what 0: 1 if a BUSH is there, else 0, 1: in how many STEPS, 2: TENTS on it. NONE without these.");
        for (int side = 2; side <= 6; side++) {
            int last = side * side - 1;
            Consumer<AskedCamp> setup = told("camp " + side + " 0;tent " + last + " 1;bush " + last);
            for (int i = 0; i < 3; i++) {
                int what = i;
                EDGES.range("cell(n, " + what + ")", setup, (x, n) -> x.cell(n, what), 0, last, -1);
            }
            EDGES.range("cell(0, n)", setup, (x, n) -> x.cell(0, n), 0, 2, -1);
            AskedCamp x = Edges.made(setup);
            EDGES.is("a BUSH, and the TENT there", x.cell(last, 0) * 10 + x.cell(last, 2), 11);
            EDGES.is("nothing", x.cell(1, 0) + x.cell(1, 1) + x.cell(1, 2), 0);
        }
        AskedCamp smaller = Edges.camp("camp 6 35;bush 35");
        Tape.camp(smaller, "camp 2 0");
        EDGES.is("not one of an older CAMP", smaller.cell(4, 0) + smaller.cell(35, 0), -2);
    }

    private static void stepWithoutCamp() {
        EDGES.sentence("NONE, and nothing happens, without a CAMP");
        EDGES.leaves("step()", Looks::campless, x -> x.step(), -1);
        EDGES.is("with one", Edges.camp("camp 2 3").step(), 3);
    }

    private static Consumer<AskedCamp> inStep(int step) {
        return x -> {
            told("camp 3 0;tent 8 20").accept(x);
            x.force(0);
            for (int i = 0; i < step; i++) {
                x.step();
            }
        };
    }

    private static void stepUpTo999() {
        EDGES.sentence("STEP is 1 more (999 at most by hand); NONE, and nothing happens, in STEP 999.");
        AskedCamp x = Edges.made(inStep(0));
        for (int i = 1; i <= 999; i++) {
            EDGES.is("it goes to and fro", x.step(), i % 2);
            EDGES.is("STEP", x.count(4), i);
        }
        EDGES.is("in STEP 999", x.step(), -1);
        EDGES.leaves("step() in STEP 999", inStep(999), y -> y.step(), -1);
        EDGES.is("other ACTS go on", x.bush(8), 1);
        x.undo();
        x.undo();
        EDGES.is("in STEP 998 again", x.count(4), 998);
        EDGES.is("the 999th again", x.step(), 1);
        EDGES.is("in STEP 999 again", x.step(), -1);
    }

    private static void beyond999() {
        EDGES.sentence("STEPS that are asked go on beyond");
        AskedCamp x = Edges.made(inStep(999));
        Tape.rule(x, "go 1 if step = 1000 and cell = 2; go 1 if step = 1001 and cell = 5; go 1 if step > 1001");
        x.force(1);
        EDGES.is("in 1", x.ahead(0, 1, 0), 1);
        EDGES.is("in 2", x.ahead(0, 2, 0), 2);
        EDGES.is("in 3", x.ahead(0, 3, 0), 5);
        x.pitch(0, 5);
        EDGES.is("first", x.first(0), 1001);
        EDGES.is("it knows all", x.knowsAll(0), 998);
        EDGES.is("ring", x.ring(0), 1004);
        EDGES.is("most", x.most(3, 1), 1);
        EDGES.is("winds", x.winds(2, 3, 0, 0), 2);
        EDGES.is("by hand not", x.step(), -1);
    }

    private static void whistleToCells() {
        EDGES.sentence("WHISTLE: the CELL on which it is then; NONE, and nothing happens, without these.");
        for (int side = 2; side <= 6; side++) {
            int last = side * side - 1;
            EDGES.range("SIDE " + side, told("camp " + side + " 1;tent 0 1"), (x, n) -> x.whistle(n), 0, last, -1);
        }
        EDGES.leaves("without a CAMP", Looks::campless, x -> x.whistle(0), -1);
    }

    private static void whistleToItself() {
        EDGES.sentence("WHISTLE (to a CELL to which there is a WAY, another one)");
        EDGES.leaves("its own", told("camp 3 4;tent 0 1"), x -> x.whistle(4), -1);
        EDGES.leaves("its own, with a BUSH", told("camp 3 4;tent 0 1;bush 4"), x -> x.whistle(4), -1);
        EDGES.is("one beside", Edges.camp("camp 3 4").whistle(3), 3);
    }

    private static void whistleWithoutWay() {
        EDGES.sentence("WHISTLE (to a CELL to which there is a WAY)");
        EDGES.leaves("one with a BUSH", told("camp 3 4;tent 0 1;bush 3"), x -> x.whistle(3), -1);
        EDGES.leaves("one shut off", told("camp 3 4;tent 0 1;bush 1;bush 3"), x -> x.whistle(0), -1);
        EDGES.leaves("out of BUSHES all round", told("camp 2 0;tent 0 1;bush 1;bush 2"), x -> x.whistle(3), -1);
        EDGES.is("one nearly shut off", Edges.camp("camp 3 4;bush 1;bush 3;bush 5").whistle(6), 7);
        AskedCamp x = Edges.camp("camp 2 0;bush 0");
        EDGES.is("out of a BUSH", x.whistle(3), 1);
        EDGES.is("not back into it", x.whistle(0), -1);
    }

    private static void whistleToTheLeast() {
        EDGES.sentence("the QUESTION goes to the first CELL of one, of several the least");
        EDGES.is("of two", Edges.camp("camp 3 4").whistle(0), 1);
        EDGES.is("of two", Edges.camp("camp 3 4").whistle(6), 3);
        EDGES.is("of two", Edges.camp("camp 3 4").whistle(8), 5);
        EDGES.is("no longer way, though less", Edges.camp("camp 3 4").whistle(7), 7);
        EDGES.is("round a BUSH", Edges.camp("camp 3 4;bush 1").whistle(0), 3);
        AskedCamp x = Edges.camp("camp 6 0");
        int[] way = {1, 2, 3, 4, 5, 11, 17, 23, 29, 35};
        for (int cell : way) {
            EDGES.is("to the last one", x.whistle(35), cell);
        }
        EDGES.is("it is there", x.whistle(35), -1);
    }

    private static void whistleAsksNobody() {
        EDGES.sentence("WHISTLE (.. nobody is asked)");
        AskedCamp x = Edges.camp("camp 2 0;tent 1 5");
        x.whistle(1);
        EDGES.is("asked, BITS, STEP, come to", x.tent(0, 2) + x.count(8) + x.count(6) + x.count(4) + x.cell(1, 1), 0);
        EDGES.is("NERVE", x.tent(0, 1), 5);
        EDGES.is("an ACT", x.count(11), 1);
    }

    private static void pitch() {
        EDGES.sentence("PITCH: the CELL on which it was; NONE, and nothing happens, without these (another CELL).");
        for (int side = 2; side <= 6; side++) {
            int last = side * side - 1;
            String camp = "camp " + side + " 0" + ";tent 1 5".repeat(side);
            EDGES.range("pitch(0, n)", told(camp), (x, n) -> x.pitch(0, n), 0, last, -1);
            EDGES.range("pitch(n, 0)", told(camp), (x, n) -> x.pitch(n, 0), 0, side - 1, -1);
        }
        EDGES.leaves("of none", told("camp 2 0"), x -> x.pitch(0, 1), -1);
        EDGES.leaves("without a CAMP", Looks::campless, x -> x.pitch(0, 1), -1);
    }

    private static void pitchToAnother() {
        EDGES.sentence("PITCH (a TENT is on another CELL)");
        EDGES.leaves("the same", told("camp 3 0;tent 8 1;tent 4 1"), x -> x.pitch(0, 8), -1);
        AskedCamp x = Edges.camp("camp 3 0;tent 8 1;tent 4 1;bush 7");
        EDGES.is("where another one is", x.pitch(0, 4), 8);
        EDGES.is("on a BUSH", x.pitch(0, 7), 4);
        EDGES.is("where the QUESTION is", x.pitch(0, 0), 7);
        EDGES.is("back again", x.pitch(0, 8), 0);
        EDGES.is("it is there", x.tent(0, 0), 8);
        EDGES.is("the other one stays", x.tent(1, 0), 4);
        EDGES.is("nobody is asked", x.count(8), 0);
    }

    private static void steadyMuch() {
        EDGES.sentence("STEADY (a TENT has NERVE more, 1 to 9): NERVE then; NONE, and nothing happens, without these.");
        Consumer<AskedCamp> setup = told("camp 3 0;tent 8 0;tent 4 20");
        EDGES.range("steady(0, n)", setup, (x, n) -> x.steady(0, n), 1, 9, -1);
        EDGES.range("steady(n, 1)", setup, (x, n) -> x.steady(n, 1), 0, 1, -1);
        EDGES.leaves("by 0", setup, x -> x.steady(0, 0), -1);
        EDGES.leaves("of none", told("camp 2 0"), x -> x.steady(0, 1), -1);
        EDGES.leaves("without a CAMP", Looks::campless, x -> x.steady(0, 1), -1);
        for (int much = 1; much <= 9; much++) {
            AskedCamp x = Edges.camp("camp 3 0;tent 8 0;tent 4 20");
            EDGES.is("by " + much, x.steady(1, much), 20 + much);
            EDGES.is("of the other", x.tent(0, 1), 0);
        }
    }

    private static void steadyAtMost() {
        EDGES.sentence("NERVE more; 99 at most");
        for (int left = 0; left <= 10; left++) {
            for (int much = 1; much <= 9; much++) {
                AskedCamp x = Edges.camp("camp 3 0;tent 8 9");
                for (int i = 0; i < 9; i++) {
                    x.steady(0, 9);
                }
                for (int nerve = 90; nerve < 99 - left; nerve++) {
                    x.steady(0, 1);
                }
                int was = Math.max(90, 99 - left);
                EDGES.is("of " + was + " by " + much, x.steady(0, much), Math.min(99, was + much));
                EDGES.is("then", x.tent(0, 1), Math.min(99, was + much));
                EDGES.is("ACTS", x.count(11), 10 + was - 90);
            }
        }
    }

    private static void bush() {
        EDGES.sentence("BUSH: 1 if there is one then, else 0; NONE, and nothing happens, without that CELL.");
        for (int side = 2; side <= 6; side++) {
            EDGES.range("SIDE " + side, told("camp " + side + " 1;tent 0 1"), (x, n) -> x.bush(n), 0, side * side - 1, -1);
        }
        EDGES.leaves("without a CAMP", Looks::campless, x -> x.bush(0), -1);
    }

    private static void bushOrNone() {
        EDGES.sentence("BUSH (a CELL: there is one, if there was none, none, if there was one)");
        AskedCamp x = Edges.camp("camp 6 0;tent 35 1");
        for (int cell = 0; cell < 36; cell++) {
            EDGES.is("planted", x.bush(cell), 1);
            EDGES.is("BUSHES", x.count(9), cell + 1);
        }
        EDGES.is("it is where it was", x.count(5), 0);
        EDGES.is("no WAY", x.way(1), -2);
        for (int cell = 35; cell >= 0; cell--) {
            EDGES.is("cleared", x.bush(cell), 0);
            EDGES.is("BUSHES", x.count(9), cell);
            EDGES.is("there", x.cell(cell, 0), 0);
        }
    }

    private static void lastTwenty() {
        EDGES.sentence("The last 20 can be UNDONE; how many more can be");
        for (int acts : new int[] {0, 1, 2, 18, 19, 20, 21, 22, 35}) {
            AskedCamp x = Edges.camp("camp 6 0");
            for (int i = 0; i < acts; i++) {
                x.bush(i);
                EDGES.is("so many", x.count(11), Math.min(i + 1, 20));
            }
            for (int left = Math.min(acts, 20) - 1; left >= 0; left--) {
                EDGES.is("how many more of " + acts, x.undo(), left);
                EDGES.is("so many more", x.count(11), left);
            }
            EDGES.is("none can", x.undo(), -1);
            for (int cell = 0; cell < 36; cell++) {
                EDGES.is("what stays of " + acts, x.cell(cell, 0), cell < acts - 20 ? 1 : 0);
            }
        }
    }

    private static void lastFirst() {
        EDGES.sentence("UNDONE, the last first");
        AskedCamp x = Edges.camp("camp 3 0;tent 8 1");
        x.bush(1);
        x.pitch(0, 7);
        x.steady(0, 3);
        x.whistle(4);
        x.step();
        EDGES.is("where", x.count(5), 4);
        for (int i = 1; i <= 5; i++) {
            EDGES.is("undo", x.undo(), 5 - i);
            EDGES.is("where, behind " + i, x.count(5), i == 1 ? 3 : 0);
            EDGES.is("STEP, behind " + i, x.count(4), 0);
            EDGES.is("NERVE, behind " + i, x.tent(0, 1), i < 3 ? 4 : 1);
            EDGES.is("CELL, behind " + i, x.tent(0, 0), i < 4 ? 7 : 8);
            EDGES.is("BUSH, behind " + i, x.cell(1, 0), i < 5 ? 1 : 0);
        }
        AskedCamp again = Edges.camp("camp 6 0");
        for (int i = 0; i < 20; i++) {
            again.bush(i);
        }
        again.undo();
        again.undo();
        again.bush(30);
        EDGES.is("one more behind two undone", again.count(11), 19);
        EDGES.is("the new one first", again.undo(), 18);
        EDGES.is("it is gone", again.cell(30, 0), 0);
        EDGES.is("then the older one", again.undo() + again.cell(17, 0) + again.cell(16, 0), 18);
    }

    private static void undoNone() {
        EDGES.sentence("NONE, and nothing happens: none can.");
        Consumer<AskedCamp> rich = Looks::rich;
        EDGES.leaves("a new CAMP", rich.andThen(x -> x.camp()), x -> x.undo(), -1);
        EDGES.leaves("gone back to an IMAGE", rich.andThen(x -> x.back(2)), x -> x.undo(), -1);
        EDGES.leaves("without a CAMP", Looks::campless, x -> x.undo(), -1);
        Consumer<AskedCamp> all = rich.andThen(x -> {
            for (int i = 0; i < 20; i++) {
                x.undo();
            }
        });
        EDGES.leaves("all undone", all, x -> x.undo(), -1);
    }

    private static void undone(String act, ToIntFunction<AskedCamp> acted) {
        Consumer<AskedCamp> rich = Looks::rich;
        AskedCamp x = Edges.made(rich);
        int kept = x.count(11);
        EDGES.is(act + " is done", acted.applyAsInt(x) >= 0 ? 1 : 0, 1);
        EDGES.is(act + " is an ACT", x.count(11), kept + 1);
        EDGES.alike(act + " undone", rich.andThen(acted::applyAsInt).andThen(y -> y.undo()), rich);
    }

    private static void undoneAsItWas() {
        EDGES.sentence("The last ACT is UNDONE");
        undone("step", x -> x.step());
        undone("whistle", x -> x.whistle(13));
        undone("pitch", x -> x.pitch(3, 0));
        undone("steady", x -> x.steady(3, 9));
        undone("bush planted", x -> x.bush(11));
        undone("bush cleared", x -> x.bush(7));
    }

    private static void refusedIsNoAct() {
        EDGES.sentence("nothing happens (nothing to be UNDONE comes by a refused call)");
        AskedCamp x = Edges.camp("camp 3 0;tent 8 1;bush 1");
        int refused = x.whistle(0) + x.whistle(1) + x.whistle(9) + x.pitch(0, 8) + x.pitch(1, 0) + x.pitch(0, 9)
                + x.steady(0, 0) + x.steady(0, 10) + x.steady(1, 1) + x.bush(9) + x.bush(-1) + x.undo();
        EDGES.is("twelve refused", refused, -12);
        EDGES.is("ACTS", x.count(11), 0);
    }

    private static void last512() {
        EDGES.sentence("An object is used for at most 512 calls after it has been made");
        AskedCamp x = new AskedCamp();
        Tape.put(x, "camp 2 0;tent 0 1");
        x.camp();
        // end, feed, end and camp were four calls
        for (int call = 5; call < 512; call++) {
            EDGES.is("call " + call, x.step(), 0);
        }
        EDGES.is("the 512th call", x.count(8), 507);
    }
}
