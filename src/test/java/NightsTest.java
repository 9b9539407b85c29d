/** Promises 27 to 34: nights that were told, drawn winds, counts, images. */
public final class NightsTest {
    private static final Due DUE = new Due();
    /** Cells 0 1 2 / 3 4 5 / 6 7 8; without a rule it goes 3, 4, 5, 2, 5, 8, and stays there. */
    private static final String SMALL = "camp 3 0;tent 8 5;tent 2 3;tent 4 1;bush 1";

    public static void main(String[] args) {
        note();
        ruled();
        look();
        seed();
        winds();
        windsGo();
        count();
        images();
        imageOfNothing();
        DUE.close();
    }

    private static AskedCamp camp(String text) {
        AskedCamp x = new AskedCamp();
        Tape.camp(x, text);
        return x;
    }

    private static void note() {
        AskedCamp x = camp(SMALL);
        DUE.due("27: without", x.note(61, 0) + x.note(-2, 0) + x.note(0, 9) + x.note(0, -1), -8);
        DUE.due("27: no camp", new AskedCamp().note(0, 0), -2);
        DUE.due("27: none there are", new AskedCamp().note(-1, 0), 0);
        for (int i = 1; i <= 10; i++) {
            DUE.due("27: how many", x.note(60, 8), i);
        }
        DUE.due("27: there are 10", x.note(60, 8), -2);
        DUE.due("27: notes", x.count(10), 10);
        DUE.due("27: none then", x.note(-1, 77), 0);
        DUE.due("27: notes", x.count(10), 0);
        DUE.due("27: one again", x.note(0, 0), 1);
        DUE.due("27: no act", x.count(11), 0);
    }

    private static void ruled() {
        AskedCamp x = camp(SMALL);
        DUE.due("28: none alone", x.ruled(0), 1);
        Tape.rule(x, "go 9 - cell");
        Tape.rule(x, "go cell");
        DUE.due("28: all without notes", x.ruled(0), 3);
        DUE.due("28: none is the first", x.ruled(1), -1);
        x.note(2, 0);
        DUE.due("28: there and back", x.ruled(0), 1);
        DUE.due("28: there and back", x.ruled(1), 0);
        x.note(3, 4);
        DUE.due("28: none such", x.ruled(0), 0);
        DUE.due("28: none such", x.ruled(1), -2);
        x.note(-1, 0);
        x.note(2, 6);
        DUE.due("28: the last", x.ruled(1), 1);
        DUE.due("28: others", x.ruled(2) + x.ruled(-1) + new AskedCamp().ruled(0), -9);
        x.note(-1, 0);
        x.note(60, 8);
        x.note(5, 5);
        for (int i = 0; i < 3; i++) {
            x.step();
        }
        x.bush(8);
        x.pitch(0, 3);
        x.force(0);
        DUE.due("28: as the text told it", x.ruled(0), 1);
        DUE.due("28: as the text told it", x.ruled(1), -1);
    }

    private static void look() {
        AskedCamp x = camp(SMALL);
        DUE.due("29: one alone", x.look(0), 0);
        DUE.due("29: one alone", x.look(1), 1);
        Tape.rule(x, "go 9 - cell");
        DUE.due("29: where they part", x.look(0), 2);
        DUE.due("29: how many", x.look(1), 1);
        Tape.rule(x, "go 9 - cell");
        DUE.due("29: two alike", x.look(0), 2);
        DUE.due("29: two alike", x.look(1), 2);
        Tape.rule(x, "go 9 if step = 0; go 9 if step = 1 and cell = 4; go 9 if step = 2 and cell = 7");
        DUE.due("29: three parts, two of two", x.look(0), 2);
        DUE.due("29: the most alike", x.look(1), 2);
        x.note(2, 4);
        DUE.due("29: of these alone", x.look(0), 3);
        DUE.due("29: of these alone", x.look(1), 1);
        x.note(2, 5);
        DUE.due("29: no rule is so", x.look(0), -2);
        DUE.due("29: no rule is so", x.look(1), -2);
        AskedCamp late = camp("camp 2 0");
        Tape.rule(late, "go 1 if step = 60");
        DUE.due("29: they never part so soon", late.look(0), 0);
        DUE.due("29: they never part so soon", late.look(1), 2);
        Tape.rule(late, "go 1 if step = 59");
        DUE.due("29: at the begin of the last", late.look(0), 60);
        DUE.due("29: at the begin of the last", late.look(1), 2);
        late.note(60, 1);
        DUE.due("28: at the begin of the last", late.ruled(1), 1);
        DUE.due("29: others", x.look(2) + x.look(-1) + new AskedCamp().look(0), -3);
    }

    private static void seed() {
        AskedCamp x = new AskedCamp();
        DUE.due("30: at first", x.seed(7), 0);
        DUE.due("30: below 0", x.seed(-1), -1);
        DUE.due("30: was", x.seed(2147483647), 7);
        DUE.due("30: was", x.seed(0), 2147483647);
        DUE.due("30: x", x.count(12), 0);
    }

    private static void winds() {
        AskedCamp x = camp(SMALL);
        DUE.due("31: no wind", x.winds(2, 6, 0, 0), 6);
        DUE.due("31: no wind", x.winds(2, 6, 0, 1), 6);
        DUE.due("31: no wind, from now on", x.winds(10, 1, 0, 0), 0);
        DUE.due("31: without", x.winds(0, 1, 0, 0) + x.winds(11, 1, 0, 0) + x.winds(1, 0, 0, 0) + x.winds(1, 61, 0, 0), -4);
        DUE.due("31: without", x.winds(1, 1, -1, 0) + x.winds(1, 1, 101, 0) + x.winds(1, 1, 0, 2) + x.winds(1, 1, 0, -1), -4);
        DUE.due("31: no camp", new AskedCamp().winds(1, 1, 0, 0), -1);
        x.step();
        x.step();
        DUE.due("31: in these alone", x.winds(3, 2, 0, 0), 3);
        DUE.due("31: all bits", x.winds(3, 2, 0, 1), 6);
    }

    /** By one draw below 1 and one wind ahead in the row, from x = 0; then 88 and behind in the row. */
    private static void windsGo() {
        AskedCamp x = camp("camp 3 4;tent 0 1");
        DUE.due("31: no wind", x.winds(1, 1, 0, 0), 0);
        DUE.due("31: ahead in the row", x.winds(1, 1, 1, 0), 1);
        DUE.due("31: draws go on", x.winds(2, 1, 100, 0), 1);
        DUE.due("31: draws go on", x.winds(2, 1, 100, 1), 1);
        DUE.due("31: x as it was", x.count(12), 0);
        DUE.due("31: nothing stays", x.count(5), 4);
        AskedCamp y = camp("camp 3 4;tent 8 1");
        y.seed(1406932606);
        DUE.due("31: 88 is not below", y.winds(1, 1, 88, 0), 0);
        DUE.due("31: behind in the row", y.winds(1, 1, 89, 0), 1);
        y.bush(5);
        DUE.due("31: not into a bush", y.winds(1, 1, 89, 0), 0);
        y.bush(5);
        y.seed(654583775);
        DUE.due("31: the row ahead", y.winds(1, 2, 18, 0), 0);
        DUE.due("31: no wind", y.winds(1, 2, 17, 0), 1);
        y.seed(1449466924);
        DUE.due("31: the row behind", y.winds(1, 1, 100, 0), 1);
        AskedCamp edge = camp("camp 2 0;tent 3 0;tent 0 0");
        Tape.rule(edge, "go 0");
        edge.force(0);
        DUE.due("31: not beyond the square", edge.winds(1, 1, 100, 0), 1);
        Tape.rule(edge, "go 1 if been > 0");
        edge.seed(1406932606);
        edge.force(1);
        DUE.due("31: nobody is asked by a wind", edge.winds(1, 1, 100, 0), 0);
    }

    private static void count() {
        AskedCamp x = camp(SMALL);
        Tape.rule(x, "go 1");
        x.feed(1, 2, 3, 4, 5);
        x.seed(99);
        x.force(0);
        x.force(-1);
        x.step();
        x.step();
        x.note(3, 3);
        int[] want = {3, 3, 1, -1, 2, 4, 4, 4, 1, 1, 1, 2, 99, 20};
        for (int what = 0; what < want.length; what++) {
            DUE.due("32: count(" + what + ")", x.count(what), want[what]);
        }
        DUE.due("32: others", x.count(14) + x.count(-1) + x.count(2147483647), -3);
    }

    private static void images() {
        AskedCamp x = camp(SMALL);
        DUE.due("33: without", x.image(4) + x.image(-1), -2);
        DUE.due("34: without", x.back(4) + x.back(-1), -2);
        Tape.rule(x, "go 1");
        x.force(0);
        x.seed(11);
        x.note(2, 4);
        x.step();
        DUE.due("33: step", x.image(2), 1);
        DUE.due("33: acts stay", x.count(11), 1);
        DUE.due("34: never made", x.back(0), -1);
        x.step();
        x.bush(8);
        x.steady(0, 9);
        x.pitch(1, 0);
        x.force(-1);
        x.seed(12);
        x.note(-1, 0);
        Tape.rule(x, "go 2");
        DUE.due("33: step", x.image(0), 2);
        Tape.camp(x, "camp 2 3;tent 0 0");
        x.feed(0, 0, 0, 0, 0);
        DUE.due("34: step", x.back(2), 1);
        int[] want = {3, 3, 2, 0, 1, 3, 0, 0, 0, 1, 1, 0, 11, 20};
        for (int what = 0; what < want.length; what++) {
            DUE.due("34: count(" + what + ")", x.count(what), want[what]);
        }
        DUE.due("34: as the text told it", x.ruled(1), -1);
        DUE.due("34: nerve", x.tent(0, 1), 5);
        DUE.due("34: cell", x.tent(1, 0), 2);
        DUE.due("34: nothing to undo", x.undo(), -1);
        x.step();
        DUE.due("34: again", x.back(2), 1);
        DUE.due("34: it stays", x.count(5), 3);
        DUE.due("34: the other one", x.back(0), 2);
        DUE.due("34: its bushes", x.count(9), 2);
        DUE.due("34: its rule", x.count(3), -1);
        DUE.due("33: over an older one", x.image(2), 2);
        DUE.due("34: step", x.back(2), 2);
    }

    private static void imageOfNothing() {
        AskedCamp x = new AskedCamp();
        DUE.due("33: without a camp", x.image(3), 0);
        Tape.camp(x, SMALL);
        x.step();
        DUE.due("34: without a camp", x.back(3), 0);
        DUE.due("34: no camp then", x.count(0), 0);
        DUE.due("34: no camp then", x.count(5), -1);
        DUE.due("34: no camp then", x.step(), -1);
        DUE.due("34: no tents then", x.tent(0, 0), -1);
    }
}
