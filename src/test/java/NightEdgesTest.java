import java.util.function.Consumer;

/** The edges of notes, of rules found by them, of winds, counts and images: promises 27 to 34. */
public final class NightEdgesTest {
    private static final Edges EDGES = new Edges();
    /** x from which the first draw is 99 (mod 100) and the second one is the wind (mod 4). */
    private static final int[] X_OF_WIND = {435, 194, 886, 404};

    public static void main(String[] args) {
        noteStep();
        noteCell();
        noteTen();
        noteNone();
        ruledWhat();
        ruledHowMany();
        ruledNone();
        ruledSteps();
        ruledAsTold();
        lookWhat();
        lookNone();
        lookSteps();
        lookParts();
        seedBelow();
        drawsGoRound();
        windsRanges();
        windsSteps();
        windsTimes();
        windsBelow();
        windsEachWay();
        windsIfThatCanBe();
        windsAskNobody();
        windsStayNot();
        countWhat();
        countEdges();
        imageOf();
        imagesApart();
        backNever();
        backAsItWas();
        backStays();
        EDGES.close();
    }

    private static Consumer<AskedCamp> rich() {
        return Looks::rich;
    }

    // ---- notes

    private static void noteStep() {
        EDGES.sentence("at the begin of the n-th STEP of all (0 to 60); -2, and nothing happens, without these");
        for (int n : new int[] {Integer.MIN_VALUE, -3, -2, 61, 62, Integer.MAX_VALUE}) {
            EDGES.leaves("note(" + n + ", 0)", rich(), x -> x.note(n, 0), -2);
        }
        for (int n : new int[] {0, 1, 59, 60}) {
            EDGES.is("note(" + n + ", 0)", Edges.made(rich()).note(n, 0), 3);
        }
    }

    private static void noteCell() {
        EDGES.sentence("the QUESTION was on a CELL; -2, and nothing happens, without these");
        for (int side = 2; side <= 6; side++) {
            String camp = "camp " + side + " 0";
            EDGES.range("SIDE " + side, x -> Tape.camp(x, camp), (x, n) -> x.note(0, n), 0, side * side - 1, -2);
        }
        EDGES.leaves("without a CAMP", Looks::campless, x -> x.note(0, 0), -2);
    }

    private static Consumer<AskedCamp> noted(int notes) {
        return rich().andThen(x -> {
            x.note(-1, 0);
            for (int i = 0; i < notes; i++) {
                x.note(0, 5);
            }
        });
    }

    private static void noteTen() {
        EDGES.sentence("NOTES 0 to 9: how many; -2, and nothing happens, if there are 10.");
        for (int notes = 0; notes < 10; notes++) {
            EDGES.is("one more than " + notes, Edges.made(noted(notes)).note(7, 7), notes + 1);
            EDGES.is("so many", Edges.made(noted(notes)).count(10), notes);
        }
        EDGES.leaves("an eleventh", noted(10), x -> x.note(7, 7), -2);
        EDGES.leaves("an eleventh like the others", noted(10), x -> x.note(0, 5), -2);
        AskedCamp x = Edges.camp("camp 2 0");
        for (int i = 0; i < 9; i++) {
            x.note(0, 0);
        }
        EDGES.is("nine are so", x.ruled(0), 1);
        x.note(60, 1);
        EDGES.is("the tenth is not", x.ruled(0), 0);
    }

    private static void noteNone() {
        EDGES.sentence("A NOTE (n NONE: there are none then, 0)");
        for (int notes = 0; notes <= 10; notes += 5) {
            for (int cell : new int[] {Integer.MIN_VALUE, -1, 0, 99, Integer.MAX_VALUE}) {
                AskedCamp x = Edges.made(noted(notes));
                EDGES.is("of " + notes, x.note(-1, cell), 0);
                EDGES.is("then", x.count(10), 0);
                EDGES.is("all are so", x.ruled(0), 4);
                EDGES.is("the first again", x.note(0, 5), 1);
            }
            EDGES.alike("of " + notes, noted(notes).andThen(x -> x.note(-1, 0)), noted(0));
        }
        EDGES.leaves("without a CAMP", Looks::campless, x -> x.note(-1, 0), 0);
    }

    // ---- ruled and look

    private static void ruledWhat() {
        EDGES.sentence("RULED what 0: how many, 1: the first. -3 for others, or without a CAMP.");
        EDGES.range("ruled(n)", rich(), (x, n) -> x.ruled(n), 0, 1, -3);
        EDGES.leaves("without a CAMP", Looks::campless, x -> x.ruled(0), -3);
        EDGES.leaves("without a CAMP", Looks::campless, x -> x.ruled(1), -3);
    }

    private static AskedCamp sixRules() {
        AskedCamp x = Edges.camp("camp 6 0");
        for (int i = 1; i <= 6; i++) {
            Tape.rule(x, "go 1 if cell = step + 1 and step < " + i % 6);
        }
        return x;
    }

    private static void ruledHowMany() {
        EDGES.sentence("which of the RULES, and of none, so that all NOTES are so: how many; the first (none ahead of 0)");
        AskedCamp alone = Edges.camp("camp 6 0");
        EDGES.is("none alone", alone.ruled(0), 1);
        EDGES.is("none alone, the first", alone.ruled(1), -1);
        AskedCamp x = sixRules();
        EDGES.is("six and none, without NOTES", x.ruled(0), 7);
        EDGES.is("none is the first", x.ruled(1), -1);
        x.note(60, 0);
        EDGES.is("none and the last, which stay", x.ruled(0), 2);
        EDGES.is("none is the first", x.ruled(1), -1);
        for (int rule = 0; rule < 5; rule++) {
            x.note(-1, 0);
            x.note(60, rule + 1);
            EDGES.is("one alone", x.ruled(0), 1);
            EDGES.is("the first is RULE " + rule, x.ruled(1), rule);
        }
        x.note(-1, 0);
        x.note(1, 1);
        EDGES.is("five", x.ruled(0), 5);
        EDGES.is("the first of five", x.ruled(1), 0);
        Tape.camp(x, "camp 6 1");
        x.note(0, 1);
        EDGES.is("all, in another CAMP", x.ruled(0), 7);
    }

    private static void ruledNone() {
        EDGES.sentence("the first (NONE: none; -2: there is none such)");
        AskedCamp x = sixRules();
        x.note(0, 1);
        EDGES.is("how many", x.ruled(0), 0);
        EDGES.is("the first", x.ruled(1), -2);
        x.note(-1, 0);
        x.note(3, 3);
        x.note(3, 2);
        EDGES.is("two that can't both be so", x.ruled(0), 0);
        EDGES.is("two that can't both be so", x.ruled(1), -2);
    }

    private static void ruledSteps() {
        EDGES.sentence("at the begin of the n-th STEP of all (0 to 60)");
        AskedCamp x = Edges.camp("camp 2 0");
        Tape.rule(x, "go 1 if step = 0 and cell = 1");
        Tape.rule(x, "go 1 if step = 59 and cell = 1");
        Tape.rule(x, "go 1 if step = 60 and cell = 1");
        int[][] at = {{0, 0, 4, -1}, {1, 1, 1, 0}, {59, 1, 1, 0}, {60, 1, 2, 0}, {59, 0, 3, -1}, {60, 0, 2, -1}};
        for (int[] a : at) {
            x.note(-1, 0);
            x.note(a[0], a[1]);
            EDGES.is("on " + a[1] + " in STEP " + a[0], x.ruled(0), a[2]);
            EDGES.is("on " + a[1] + " in STEP " + a[0] + ", the first", x.ruled(1), a[3]);
        }
    }

    private static void ruledAsTold() {
        EDGES.sentence("from the begin on, all as the text told it");
        AskedCamp x = Edges.camp("camp 3 0;tent 8 1;bush 1", "go 9 - cell");
        x.note(2, 4);
        x.note(4, 8);
        EDGES.is("none", x.ruled(0) * 10 + x.ruled(1), 9);
        x.step();
        x.step();
        x.bush(1);
        x.bush(5);
        x.bush(7);
        x.pitch(0, 2);
        x.whistle(1);
        EDGES.is("behind ACTS", x.ruled(0) * 10 + x.ruled(1), 9);
        x.force(-1);
        EDGES.is("whatever is IN FORCE", x.ruled(0) * 10 + x.ruled(1), 9);
    }

    private static void lookWhat() {
        EDGES.sentence("LOOK what 0: the STEP, 1: how many. NONE for others, or without a CAMP.");
        EDGES.range("look(n)", noted(0), (x, n) -> x.look(n), 0, 1, -1);
        EDGES.leaves("without a CAMP", Looks::campless, x -> x.look(0), -1);
        EDGES.leaves("without a CAMP", Looks::campless, x -> x.look(1), -1);
    }

    private static void looks(AskedCamp x, int step, int many) {
        EDGES.is("the STEP", x.look(0), step);
        EDGES.is("how many", x.look(1), many);
    }

    private static void lookNone() {
        EDGES.sentence("LOOK; -2: no RULE is so");
        AskedCamp x = sixRules();
        x.note(0, 1);
        looks(x, -2, -2);
        x.note(-1, 0);
        x.note(0, 0);
        looks(x, 4, 2);
        looks(Edges.camp("camp 2 0"), 0, 1);
    }

    private static void lookSteps() {
        EDGES.sentence("LOOK: the STEP (0 to 60)");
        for (int step : new int[] {0, 1, 58, 59}) {
            AskedCamp x = Edges.camp("camp 2 0", "go 1 if step = " + step);
            looks(x, step + 1, 1);
        }
        looks(Edges.camp("camp 2 0", "go 1 if step = 60"), 0, 2);
        looks(Edges.camp("camp 2 0", "go 0"), 0, 2);
    }

    private static void lookParts() {
        EDGES.sentence("by where it was at whose begin these part best: the most alike are fewest, of several the least; how many");
        AskedCamp x = sixRules();
        looks(x, 4, 2);
        x.note(1, 1);
        looks(x, 5, 1);
        x.note(3, 3);
        looks(x, 5, 1);
        x.note(4, 4);
        looks(x, 5, 1);
        x.note(5, 5);
        looks(x, 0, 1);
        AskedCamp again = Edges.camp("camp 2 0", "go 1 if step < 2 and cell < 2");
        Tape.rule(again, "go 1 if step < 2 and cell < 2; go 1 if step = 9 and cell = 2");
        looks(again, 1, 2);
        Tape.rule(again, "go 1 if step = 5 and cell = 1");
        looks(again, 1, 2);
    }

    // ---- winds

    private static void seedBelow() {
        EDGES.sentence("x becomes a number: what it was; NONE, and nothing happens, below 0. (0 to 2147483647; 0 at first)");
        AskedCamp x = new AskedCamp();
        EDGES.is("at first", x.count(12), 0);
        EDGES.is("0", x.seed(0), 0);
        EDGES.is("the greatest", x.seed(2147483647), 0);
        EDGES.is("it is", x.count(12), 2147483647);
        EDGES.is("1", x.seed(1), 2147483647);
        EDGES.is("it was", x.seed(0), 1);
        for (int n : new int[] {-1, -2, Integer.MIN_VALUE}) {
            EDGES.leaves("seed(" + n + ")", rich(), y -> y.seed(n), -1);
        }
    }

    /** On cell 4 of nine, with a tent where a wind may bring it; it does not go by itself. */
    private static AskedCamp windy(int cell, int x) {
        AskedCamp camp = Edges.camp("camp 3 4;tent " + cell + " 1", "go 0");
        camp.seed(x);
        return camp;
    }

    private static void drawsGoRound() {
        EDGES.sentence("x becomes x * 1103515245 + 12345, of 2147483648 the rest; a DRAW is x / 65536");
        // the draws are 15929 and 4409: 29 of 100 and 1 of 4
        EDGES.is("29 of 100", windy(5, 2147483647).winds(1, 1, 29, 0), 0);
        EDGES.is("then 1 of 4", windy(5, 2147483647).winds(1, 1, 30, 0), 1);
        // from 0 on 0, then 21468: 0 of 4
        EDGES.is("0 of 100", windy(3, 0).winds(1, 1, 0, 0), 0);
        EDGES.is("then 0 of 4", windy(3, 0).winds(1, 1, 1, 0), 1);
        for (int seed : new int[] {0, 1, 12345, 65535, 65536, 1073741824, 2147483646, 2147483647}) {
            long x = seed;
            int asked = 0;
            for (int i = 0; i < 10; i++) {
                x = (x * 1103515245L + 12345L) % 2147483648L;
                if (x / 65536 % 100 < 50) {
                    x = (x * 1103515245L + 12345L) % 2147483648L;
                    asked += x / 65536 % 4 == 2 ? 1 : 0;
                }
            }
            EDGES.is("ten nights from " + seed, windy(1, seed).winds(10, 1, 50, 0), asked);
        }
    }

    private static void windsRanges() {
        EDGES.sentence("WINDS m times (1 to 10) n STEPS (1 to 60), p (0 to 100) what 0: how often, 1: how many. NONE without these, or a CAMP.");
        for (int i = 0; i < 2; i++) {
            int what = i;
            EDGES.range("winds(n, 1, 50, " + what + ")", rich(), (x, n) -> x.winds(n, 1, 50, what), 1, 10, -1);
            EDGES.range("winds(1, n, 50, " + what + ")", rich(), (x, n) -> x.winds(1, n, 50, what), 1, 60, -1);
            EDGES.range("winds(1, 1, n, " + what + ")", rich(), (x, n) -> x.winds(1, 1, n, what), 0, 100, -1);
        }
        EDGES.range("winds(1, 1, 50, n)", rich(), (x, n) -> x.winds(1, 1, 50, n), 0, 1, -1);
        EDGES.leaves("without a CAMP", Looks::campless, x -> x.winds(1, 1, 0, 0), -1);
    }

    private static AskedCamp goesOnce(int step) {
        return Edges.camp("camp 2 0;tent 1 1", "go 1 if cell = 1 and step = " + step);
    }

    private static void windsSteps() {
        EDGES.sentence("n STEPS (1 to 60) from now on");
        EDGES.is("in 59", goesOnce(59).winds(1, 59, 0, 0), 0);
        EDGES.is("in 60", goesOnce(59).winds(1, 60, 0, 0), 1);
        EDGES.is("not in STEP 60", goesOnce(60).winds(1, 60, 0, 0), 0);
        EDGES.is("in 1", goesOnce(0).winds(1, 1, 0, 0), 1);
        EDGES.is("in 1, not in STEP 1", goesOnce(1).winds(1, 1, 0, 0), 0);
        AskedCamp x = goesOnce(60);
        x.step();
        EDGES.is("from STEP 1 on", x.winds(1, 60, 0, 0), 1);
    }

    private static void windsTimes() {
        EDGES.sentence("WINDS m times (1 to 10): how often anybody is ASKED in these; how many BITS it has then, all together");
        AskedCamp x = Edges.camp("camp 2 0" + ";tent 0 1".repeat(6), "go 0");
        for (int m = 1; m <= 10; m++) {
            EDGES.is("how often, " + m + " times 1", x.winds(m, 1, 0, 0), 6 * m);
            EDGES.is("how often, " + m + " times 60", x.winds(m, 60, 0, 0), 360 * m);
            EDGES.is("BITS, " + m + " times", x.winds(m, 60, 0, 1), 6 * m);
        }
        x.step();
        EDGES.is("those asked before do not count", x.winds(1, 1, 0, 0), 6);
        EDGES.is("BITS it had before do", Edges.camp("camp 2 0").winds(10, 60, 100, 1), 0);
    }

    private static void windsBelow() {
        EDGES.sentence("ahead of each a DRAW mod 100: is it below p (0 to 100)");
        for (int wind = 0; wind < 4; wind++) {
            int cell = new int[] {3, 5, 1, 7}[wind];
            EDGES.is("99 is not below 99", windy(cell, X_OF_WIND[wind]).winds(1, 1, 99, 0), 0);
            EDGES.is("99 is below 100", windy(cell, X_OF_WIND[wind]).winds(1, 1, 100, 0), 1);
        }
        EDGES.is("0 is not below 0", windy(3, 0).winds(10, 60, 0, 0), 0);
        EDGES.is("0 is below 1", windy(3, 0).winds(1, 1, 1, 0), 1);
    }

    private static void windsEachWay() {
        EDGES.sentence("to the CELL ahead of it in its row (0), behind it (1), in the row ahead (2), behind (3)");
        int[] to = {3, 5, 1, 7};
        for (int wind = 0; wind < 4; wind++) {
            for (int cell = 0; cell < 9; cell++) {
                EDGES.is("wind " + wind + " to " + cell, windy(cell, X_OF_WIND[wind]).winds(1, 1, 100, 0), cell == to[wind] ? 1 : 0);
            }
        }
    }

    private static void windsIfThatCanBe() {
        EDGES.sentence("it goes, if that can be, without a BUSH");
        int[][] edge = {{0, 3, 6}, {2, 5, 8}, {0, 1, 2}, {6, 7, 8}};
        int[] to = {3, 5, 1, 7};
        for (int wind = 0; wind < 4; wind++) {
            for (int cell : edge[wind]) {
                AskedCamp x = Edges.camp("camp 3 " + cell + ";tent " + cell + " 1", "go 0");
                x.seed(X_OF_WIND[wind]);
                EDGES.is("wind " + wind + " at the edge, on " + cell, x.winds(1, 1, 100, 0), 1);
            }
            AskedCamp bush = windy(4, X_OF_WIND[wind]);
            EDGES.is("wind " + wind + " blows it off", bush.winds(1, 1, 100, 0), 0);
            bush.bush(to[wind]);
            EDGES.is("wind " + wind + " not into a BUSH", bush.winds(1, 1, 100, 0), 1);
            bush.bush(to[wind]);
            bush.bush(4);
            EDGES.is("wind " + wind + " out of a BUSH", bush.winds(1, 1, 100, 0), 0);
        }
    }

    private static void windsAskNobody() {
        EDGES.sentence("it goes (nobody is asked)");
        AskedCamp x = Edges.camp("camp 3 4;tent 5 1", "go 1 if cell = 8");
        x.seed(X_OF_WIND[1]);
        EDGES.is("blown to a TENT, and on", x.winds(1, 1, 100, 0), 0);
        EDGES.is("nor has it BITS", x.winds(1, 1, 100, 1), 0);
        AskedCamp been = Edges.camp("camp 2 0;tent 0 1", "go 1 if cell = 0 and been = 0 and step = 0");
        been.seed(X_OF_WIND[1]);
        EDGES.is("blown off and back, where it never came", been.winds(1, 1, 100, 0), 1);
    }

    private static void windsStayNot() {
        EDGES.sentence("(nothing stays; x as it was)");
        for (int x : new int[] {0, 1, 2147483647}) {
            Consumer<AskedCamp> setup = rich().andThen(y -> y.seed(x));
            int answer = Edges.made(setup).winds(10, 60, 50, 0);
            EDGES.leaves("from " + x, setup, y -> y.winds(10, 60, 50, 0), answer);
            AskedCamp twice = Edges.made(setup);
            twice.winds(10, 60, 50, 0);
            EDGES.is("the same again from " + x, twice.winds(10, 60, 50, 0), answer);
        }
    }

    // ---- counts

    private static void countWhat() {
        EDGES.sentence("What 0: SIDE, .. 13: bytes of the TAPE. NONE for others.");
        EDGES.range("count(n)", rich(), (x, n) -> x.count(n), 0, 13, -1);
        EDGES.leaves("without a CAMP", Looks::campless, x -> x.count(14), -1);
    }

    private static void countEdges() {
        EDGES.sentence("3: the RULE IN FORCE (NONE), 5: where the QUESTION is (NONE without a CAMP)");
        AskedCamp x = Edges.made(Looks::campless);
        int[] want = {0, 0, 2, 1, 0, -1, 0, 0, 0, 0, 0, 0, 77, 24};
        for (int what = 0; what < want.length; what++) {
            EDGES.is("without a CAMP, count(" + what + ")", x.count(what), want[what]);
        }
        x.force(-1);
        EDGES.is("none IN FORCE", x.count(3), -1);
        AskedCamp all = Edges.camp("camp 6 35" + ";tent 35 1".repeat(6), "go 0");
        all.step();
        int[] full = {6, 6, 1, 0, 1, 35, 63, 63, 6, 0, 0, 1, 0, 0};
        for (int what = 0; what < full.length; what++) {
            EDGES.is("of a full one, count(" + what + ")", all.count(what), full[what]);
        }
    }

    // ---- images

    private static void imageOf() {
        EDGES.sentence("IMAGES 0 to 3: An IMAGE is made: STEP; NONE without it.");
        EDGES.range("image(n)", rich(), (x, n) -> x.image(n), 0, 3, -1);
        for (int k = 0; k < 4; k++) {
            AskedCamp x = Edges.camp("camp 2 0");
            for (int i = 0; i < k; i++) {
                x.step();
            }
            EDGES.is("its STEP", x.image(k), k);
            EDGES.is("nothing else: ACTS", x.count(11), k);
        }
        EDGES.is("without a CAMP", new AskedCamp().image(0), 0);
    }

    private static void imagesApart() {
        EDGES.sentence("IMAGES 0 to 3: gone back to, it is as it was");
        AskedCamp x = Edges.camp("camp 2 0;tent 3 1");
        for (int k = 0; k < 4; k++) {
            x.bush(k);
            EDGES.is("made", x.image(k), 0);
        }
        for (int k = 3; k >= 0; k--) {
            EDGES.is("back", x.back(k), 0);
            EDGES.is("BUSHES", x.count(9), k + 1);
        }
        x.bush(0);
        EDGES.is("over an older one", x.image(2), 0);
        EDGES.is("that one", x.back(2) + x.count(9), 0);
        EDGES.is("the others stay", x.back(1) + x.count(9), 2);
        EDGES.is("the others stay", x.back(3) + x.count(9), 4);
    }

    private static void backNever() {
        EDGES.sentence("NONE, and nothing happens, if it was never made, or without it.");
        EDGES.leaves("never made, 1", rich(), x -> x.back(1), -1);
        EDGES.leaves("never made, 3", rich(), x -> x.back(3), -1);
        Consumer<AskedCamp> all = rich().andThen(x -> {
            x.image(1);
            x.step();
            x.image(3);
        });
        EDGES.range("back(n)", all, (x, n) -> x.back(n), 0, 3, -1);
        Consumer<AskedCamp> none = x -> Tape.camp(x, "camp 2 0");
        for (int k = 0; k < 4; k++) {
            int image = k;
            EDGES.leaves("none was made, " + k, none, x -> x.back(image), -1);
        }
        EDGES.leaves("refused by image", none.andThen(x -> x.image(4)), x -> x.back(4), -1);
    }

    private static void change(AskedCamp x) {
        x.step();
        x.whistle(12);
        x.pitch(0, 3);
        x.steady(1, 9);
        x.bush(14);
        x.force(2);
        x.seed(5);
        x.note(-1, 0);
        x.note(3, 3);
        Tape.camp(x, "camp 3 3;tent 3 3;tent 4 4");
        x.step();
    }

    private static void backAsItWas() {
        EDGES.sentence("All is as in an IMAGE: STEP (the RULE IN FORCE, too); nothing can be UNDONE then");
        Consumer<AskedCamp> made = rich().andThen(x -> x.end(0)).andThen(x -> x.image(3));
        EDGES.alike("back(3)", made.andThen(NightEdgesTest::change).andThen(x -> x.back(3)), made.andThen(x -> x.back(3)));
        AskedCamp x = Edges.made(made);
        int[] want = new int[14];
        for (int what = 0; what < 14; what++) {
            want[what] = what == 11 ? 0 : x.count(what);
        }
        change(x);
        EDGES.is("STEP", x.back(3), want[4]);
        for (int what = 0; what < 14; what++) {
            EDGES.is("count(" + what + ")", x.count(what), want[what]);
        }
        EDGES.is("nothing can be UNDONE", x.undo(), -1);
        x.step();
        EDGES.is("but ACTS behind it", x.undo(), 0);
        AskedCamp y = Edges.made(Looks::campless);
        y.image(0);
        Tape.camp(y, "camp 3 4;tent 4 4");
        y.step();
        EDGES.is("to no CAMP", y.back(0), 0);
        EDGES.is("there is none", y.step(), -1);
        EDGES.is("where it is", y.count(5), -1);
    }

    private static void backStays() {
        EDGES.sentence("all but the TAPE and the RULES (these stay)");
        AskedCamp x = Edges.made(rich());
        x.image(3);
        x.end(8);
        EDGES.is("a RULE more", Tape.rule(x, "go 7"), 3);
        x.force(3);
        Tape.put(x, "camp 2 3");
        x.back(3);
        EDGES.is("RULES", x.count(2), 4);
        EDGES.is("IN FORCE", x.count(3), 1);
        EDGES.is("the new one is there", x.force(3), 1);
        EDGES.is("bytes of the TAPE", x.count(13), 8);
        EDGES.is("the TAPE", x.camp() + x.count(5), 3);
    }
}
