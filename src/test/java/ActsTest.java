/** Promises 7 to 14, and the words of rules: how it stands, steps and other acts, acts undone. */
public final class ActsTest {
    private static final Due DUE = new Due();
    /** Cells 0 1 2 / 3 4 5 / 6 7 8, the question on 0, a bush on 1. */
    private static final String SMALL = "camp 3 0;tent 8 5;tent 2 3;tent 4 1;bush 1";

    public static void main(String[] args) {
        stepsWithoutRule();
        stepsByRule();
        words();
        sums();
        tests();
        whistle();
        pitch();
        steady();
        bush();
        undo();
        lastStep();
        DUE.close();
    }

    private static AskedCamp small() {
        AskedCamp x = new AskedCamp();
        Tape.camp(x, SMALL);
        return x;
    }

    private static void stepsWithoutRule() {
        AskedCamp x = small();
        DUE.due("7: without", x.tent(3, 0) + x.tent(-1, 0) + x.tent(0, 4) + x.tent(0, -1), -4);
        DUE.due("8: without", x.cell(9, 0) + x.cell(-1, 0) + x.cell(0, 3) + x.cell(0, -1), -4);
        DUE.due("8: bush", x.cell(1, 0), 1);
        DUE.due("8: no bush", x.cell(0, 0), 0);
        DUE.due("8: not come yet", x.cell(0, 1), 0);
        int[] goes = {3, 4, 5, 2, 5, 8, 8};
        for (int i = 0; i < goes.length; i++) {
            DUE.due("9: step " + i, x.step(), goes[i]);
        }
        int[][] tents = {{8, 3, 2, 7}, {2, 2, 1, 6}, {4, 0, 1, 4}};
        for (int tent = 0; tent < 3; tent++) {
            for (int what = 0; what < 4; what++) {
                DUE.due("7: tent(" + tent + ", " + what + ")", x.tent(tent, what), tents[tent][what]);
            }
        }
        int[] been = {0, 0, 1, 1, 1, 2, 0, 0, 2};
        int[] on = {0, 0, 2, 0, 4, 0, 0, 0, 1};
        for (int cell = 0; cell < 9; cell++) {
            DUE.due("8: been " + cell, x.cell(cell, 1), been[cell]);
            DUE.due("8: tents on " + cell, x.cell(cell, 2), on[cell]);
        }
        DUE.due("32: step", x.count(4), 7);
        DUE.due("32: bits", x.count(6), 7);
        DUE.due("32: asked", x.count(7), 7);
        DUE.due("32: how often", x.count(8), 4);
    }

    private static void stepsByRule() {
        AskedCamp x = small();
        Tape.rule(x, "go 9 - cell");
        Tape.rule(x, "go 0 - cell");
        Tape.rule(x, "go 5 if cell = 9");
        Tape.rule(x, "go cell if row = 0; go 1");
        x.force(0);
        DUE.due("9: greatest", x.step(), 3);
        DUE.due("9: greatest", x.step(), 0);
        x.force(1);
        DUE.due("9: none above 0", x.step(), 0);
        x.force(2);
        DUE.due("9: no test holds", x.step(), 0);
        DUE.due("8: stayed", x.cell(0, 1), 3);
        x.force(3);
        DUE.due("9: 0 is not above 0", x.step(), 3);
        DUE.due("9: of several the least", x.step(), 4);
        DUE.due("9: a bush is not gone to", x.step(), 3);
        AskedCamp together = new AskedCamp();
        Tape.camp(together, "camp 2 0;tent 0 0;tent 1 1;tent 0 2;bush 0");
        DUE.due("9: stays with a tent", together.step(), 0);
        DUE.due("9: asked in order", together.tent(0, 3), 1);
        DUE.due("9: asked in order", together.tent(2, 3), 5);
        DUE.due("9: nerve 0 at least", together.tent(0, 1), 0);
        DUE.due("9: goes on from a bush", together.step(), 1);
        DUE.due("9: leaves what it has", together.tent(1, 3), 7);
        DUE.due("9: stays when all were asked", together.step(), 1);
        AskedCamp shut = new AskedCamp();
        Tape.camp(shut, "camp 2 0;tent 3 0;bush 3");
        DUE.due("9: no way to a bush", shut.step(), 0);
    }

    /** Which cell a new question on cell 4 of a known camp goes to by a rule. */
    private static void goes(String rule, int want) {
        AskedCamp x = new AskedCamp();
        Tape.camp(x, "camp 3 4;tent 7 3;tent 7 2;tent 1 9;tent 0 20;bush 2;bush 8");
        DUE.due("5: " + rule, Tape.rule(x, rule), 0);
        x.force(0);
        DUE.due("9: " + rule, x.step(), want);
    }

    private static void words() {
        goes("go cell", 7);
        goes("go row", 7);
        goes("go column", 5);
        goes("go tents", 7);
        goes("go 99 - nerve", 7);
        goes("go nerve", 3);
        goes("go near", 5);
        goes("go 9 - near", 1);
        goes("go 1 if near = 2", 5);
        goes("go 1 if near = 1", 3);
        goes("go bushes", 5);
        goes("go 1 if bushes = 2", 5);
        goes("go 1 if bushes = 0", 3);
        goes("go been + bits + asked + step", 4);
        AskedCamp x = new AskedCamp();
        Tape.camp(x, "camp 2 0;tent 1 9;tent 1 9");
        Tape.rule(x, "go 1 if cell=1 and step=0 and asked=0 and bits=0 and been=0;"
                + "go 1 if cell=3 and step=1 and asked=2 and bits=2 and been=0 and near=99;"
                + "go 1 if cell=1 and step=2 and asked=2 and bits=2 and been=1 and tents=2 and nerve=8");
        x.force(0);
        DUE.due("9: words at step 0", x.step(), 1);
        DUE.due("9: words at step 1", x.step(), 3);
        DUE.due("9: words at step 2", x.step(), 1);
        DUE.due("9: no more", x.step(), 1);
        AskedCamp shut = new AskedCamp();
        Tape.camp(shut, "camp 3 0;tent 8 1;bush 5;bush 7");
        Tape.rule(shut, "go 1 if near = 99");
        shut.force(0);
        DUE.due("9: near without a way", shut.step(), 1);
    }

    private static void sums() {
        goes("go 1 if 7 / 2 = 3 and 7 % 4 = 3 and 5 / 0 = 0 and 5 % 0 = 0", 1);
        goes("go 1 if 2 + 3 * 4 - 5 = 9", 1);
        goes("go 1 if 2 * 3 + 4 * 5 = 26 and 20 - 5 - 5 = 10 and 20 / 3 * 3 = 18", 1);
        goes("go 1 if 2 * 3 % 4 * 5 / 3 = 3", 1);
        goes("go 1 if 1 - 8 < 0 - 6", 1);
        goes("go 65536 * 65536 * 65536 * 32768", 4);
        goes("go 65536 * 65536 * 65536 * 32768 - 1", 1);
        goes("go 65536 * 65536 * 65536 * 65536 + 1", 1);
        goes("go 65536 * 65536 * 65536 * 32768 / 2 + cell", 4);
        goes("go 1 if 65536 * 65536 * 65536 * 32768 % 3 < 0", 1);
    }

    private static void tests() {
        goes("go 1 if 1 < 1 or 1 > 1 or 1 < 2 and 2 < 1", 4);
        goes("go 1 if 1 = 1 or 1 = 2 and 1 = 3", 1);
        goes("go 1 if [1 = 1 or 1 = 2] and 1 = 3", 4);
        goes("go 1 if not 1 = 1 or 1 = 1", 1);
        goes("go 1 if not [1 = 1 or 1 = 1]", 4);
        goes("go 1 if not not 1 = 1 and not 1 = 2", 1);
        goes("go 1 if 1 <= 1 and 1 >= 1 and 2 >= 1 and 1 <= 2 and 2 > 1", 1);
        goes("go 1 if 2 <= 1 or 1 >= 2", 4);
        goes("go 0 if cell = 1; go 1", 3);
        goes("go 5 if cell = 5; go 7 if cell = 7; go 6", 7);
    }

    private static void whistle() {
        AskedCamp x = small();
        DUE.due("10: its own", x.whistle(0), -1);
        DUE.due("10: a bush", x.whistle(1), -1);
        DUE.due("10: no cell", x.whistle(9) + x.whistle(-1) + new AskedCamp().whistle(0), -3);
        DUE.due("10: nothing happened", x.count(11), 0);
        DUE.due("10: goes", x.whistle(4), 3);
        DUE.due("10: goes, the least", x.whistle(8), 4);
        DUE.due("10: nobody is asked", x.count(8), 0);
        DUE.due("10: no step", x.count(4), 0);
        DUE.due("10: no step came to it", x.cell(4, 1), 0);
        DUE.due("10: acts", x.count(11), 2);
        DUE.due("32: where", x.count(5), 4);
    }

    private static void pitch() {
        AskedCamp x = small();
        DUE.due("11: the same", x.pitch(0, 8), -1);
        DUE.due("11: no cell", x.pitch(0, 9) + x.pitch(0, -1), -2);
        DUE.due("11: no tent", x.pitch(3, 0) + x.pitch(-1, 0), -2);
        DUE.due("11: on a bush", x.pitch(0, 1), 8);
        DUE.due("11: cell", x.tent(0, 0), 1);
        DUE.due("11: acts", x.count(11), 1);
    }

    private static void steady() {
        AskedCamp x = small();
        DUE.due("12: without", x.steady(0, 0) + x.steady(0, 10) + x.steady(3, 1) + x.steady(-1, 1), -4);
        for (int i = 1; i <= 10; i++) {
            DUE.due("12: more", x.steady(0, 9), 5 + 9 * i);
        }
        DUE.due("12: 99 at most", x.steady(0, 9), 99);
        DUE.due("12: 99 at most", x.steady(0, 1), 99);
        DUE.due("12: acts", x.count(11), 12);
        DUE.due("12: undone", x.undo(), 11);
        DUE.due("12: undone", x.undo(), 10);
        DUE.due("12: as it was", x.tent(0, 1), 95);
    }

    private static void bush() {
        AskedCamp x = small();
        DUE.due("13: no cell", x.bush(9) + x.bush(-1) + new AskedCamp().bush(0), -3);
        DUE.due("13: cleared", x.bush(1), 0);
        DUE.due("13: planted", x.bush(8), 1);
        DUE.due("13: planted where it is", x.bush(0), 1);
        DUE.due("13: bushes", x.count(9), 2);
        DUE.due("13: none", x.cell(1, 0), 0);
        DUE.due("13: one", x.cell(8, 0), 1);
    }

    private static void undo() {
        AskedCamp x = small();
        for (int i = 0; i < 4; i++) {
            x.step();
        }
        Tape.rule(x, "go 1");
        x.force(0);
        x.seed(5);
        x.note(1, 1);
        x.bush(6);
        x.pitch(1, 7);
        x.whistle(8);
        DUE.due("14: how many more", x.undo(), 6);
        DUE.due("14: where", x.count(5), 2);
        DUE.due("14: how many more", x.undo(), 5);
        DUE.due("14: pitched", x.tent(1, 0), 2);
        DUE.due("14: how many more", x.undo(), 4);
        DUE.due("14: bush", x.cell(6, 0), 0);
        DUE.due("14: how many more", x.undo(), 3);
        DUE.due("14: step", x.count(4), 3);
        DUE.due("14: where", x.count(5), 5);
        DUE.due("14: been", x.cell(2, 1), 0);
        DUE.due("14: nerve", x.tent(1, 1), 3);
        DUE.due("14: asked", x.tent(1, 2), 0);
        DUE.due("14: knows", x.tent(1, 3), 2);
        DUE.due("14: bits", x.count(6), 4);
        DUE.due("14: no act", x.count(3), 0);
        DUE.due("14: no act", x.count(12), 5);
        DUE.due("14: no act", x.count(10), 1);
        for (int i = 0; i < 25; i++) {
            x.bush(i % 3);
        }
        DUE.due("14: the last 20", x.count(11), 20);
        for (int i = 19; i >= 0; i--) {
            DUE.due("14: how many more", x.undo(), i);
        }
        DUE.due("14: none can", x.undo(), -1);
        DUE.due("14: five stay, of 0 and 1 two each", x.cell(0, 0) + x.cell(1, 0) * 10 + x.cell(2, 0) * 100, 110);
    }

    private static void lastStep() {
        AskedCamp x = small();
        for (int i = 0; i < 999; i++) {
            x.step();
        }
        DUE.due("9: in step 999", x.step(), -1);
        DUE.due("9: step", x.count(4), 999);
        DUE.due("16: goes on beyond", x.first(0), 999);
    }
}
