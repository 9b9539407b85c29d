/** The edges of words, sums and tests, and of a step by a rule and without one. */
public final class WordEdgesTest {
    private static final Edges EDGES = new Edges();
    /** Below every other number: 2 to the 63rd goes round. */
    private static final String LOWEST = "65536*65536*65536*32768";

    public static void main(String[] args) {
        cells();
        tents();
        nerve();
        been();
        near();
        nearWithout();
        bushes();
        bits();
        asked();
        step();
        towardsNought();
        byNought();
        goesRound();
        notSooner();
        signs();
        together();
        aboveNought();
        noClauseHolds();
        ofSeveral();
        noneBeside();
        withoutRule();
        withoutRuleStays();
        cameOnceMore();
        nerveAtLeast();
        takesAndLeaves();
        EDGES.close();
    }

    /** Whether a test holds for cell 1, beside which the question of a camp is on cell 0. */
    private static void holds(String camp, String test, boolean want) {
        AskedCamp x = Edges.camp(camp, "go 1 if cell = 1 and [" + test + "]");
        EDGES.is(camp + ": " + test, x.step(), want ? 1 : 0);
    }

    private static void holds(String test, boolean want) {
        holds("camp 2 0", test, want);
    }

    private static void cells() {
        EDGES.sentence("WORDS of a CELL beside the QUESTION without a BUSH: cell, row, column");
        for (int side = 2; side <= 6; side++) {
            int last = side * side - 1;
            String rule = "go 1 if cell = %d and row = %d and column = %d";
            AskedCamp x = Edges.camp("camp " + side + " 1", String.format(rule, 0, 0, 0));
            EDGES.is("the first of SIDE " + side, x.step(), 0);
            x = Edges.camp("camp " + side + " " + (last - side), String.format(rule, last, side - 1, side - 1));
            EDGES.is("the last of SIDE " + side, x.step(), last);
            x = Edges.camp("camp " + side + " 0", String.format(rule, side, 1, 0));
            EDGES.is("the first of the second row", x.step(), side);
        }
    }

    private static void tents() {
        EDGES.sentence("tents (on it)");
        holds("camp 2 0;tent 0 1;tent 2 1", "tents = 0", true);
        holds("camp 2 0;tent 1 1", "tents = 1", true);
        holds("camp 2 0" + ";tent 1 1".repeat(6), "tents = 6", true);
        holds("camp 2 0" + ";tent 1 1".repeat(5) + ";tent 2 1", "tents = 5", true);
    }

    private static void nerve() {
        EDGES.sentence("nerve (the least NERVE of these; 99 without)");
        holds("nerve = 99", true);
        holds("camp 2 0;tent 2 5;tent 0 4", "nerve = 99", true);
        holds("camp 2 0;tent 1 0", "nerve = 0", true);
        holds("camp 2 0;tent 1 20", "nerve = 20", true);
        holds("camp 2 0;tent 1 7;tent 1 3;tent 1 5", "nerve = 3", true);
        holds("camp 2 0;tent 1 7;tent 2 3", "nerve = 7", true);
        holds("camp 2 0;tent 1 9;tent 1 8;tent 1 7;tent 1 6;tent 1 5;tent 1 4", "nerve = 4", true);
        AskedCamp older = Edges.camp("camp 2 0;tent 1 3;tent 1 2", "go 1 if cell = 1 and nerve = 99");
        Tape.camp(older, "camp 2 0;tent 3 3");
        EDGES.is("not one of an older CAMP", older.step(), 1);
        AskedCamp x = Edges.camp("camp 2 0;tent 1 20", "go 1 if cell = 1 and nerve = 99 and tents = 1");
        for (int i = 0; i < 9; i++) {
            x.steady(0, 9);
        }
        EDGES.is("of one that has 99", x.step(), 1);
    }

    private static void been() {
        EDGES.sentence("been (in how many STEPS the QUESTION came to it, or stayed on it, so far)");
        holds("been = 0", true);
        AskedCamp x = Edges.camp("camp 2 0", "go 0 if step < 2; go 1 if cell = 1 and step = 2; go 1 if cell = 0 and been = 2");
        int[] where = {0, 0, 1, 0, 0};
        for (int i = 0; i < where.length; i++) {
            EDGES.is("stayed twice, step " + i, x.step(), where[i]);
        }
        x = Edges.camp("camp 2 0", "go 1 if cell < 2 and been = step / 2");
        for (int i = 0; i < 8; i++) {
            EDGES.is("there and back, step " + i, x.step(), 1 - i % 2);
        }
        x = Edges.camp("camp 2 0", "go 1 if cell = 0 and been = 0");
        x.whistle(1);
        EDGES.is("where it was let out does not count, nor a whistle", x.step(), 0);
        x = Edges.camp("camp 2 0", "go 1 if cell = 1 and been = 0");
        x.whistle(1);
        x.whistle(0);
        EDGES.is("a whistle does not count", x.step(), 1);
    }

    private static void near() {
        EDGES.sentence("near (how many CELLS the way from it to the nearest TENT that was not asked yet has)");
        holds("camp 2 0;tent 1 1", "near = 0", true);
        holds("camp 2 0;tent 0 1", "near = 1", true);
        holds("camp 2 0;tent 2 1", "near = 2", true);
        holds("camp 2 0;tent 2 1;tent 3 1", "near = 1", true);
        holds("camp 6 0;tent 35 1", "near = 9", true);
        String snake = "camp 6 0;bush 6;bush 7;bush 8;bush 9;bush 10;bush 19;bush 20;bush 21;bush 22;bush 23"
                + ";bush 30;bush 31;bush 32;bush 33;bush 34";
        holds(snake + ";tent 35 1", "near = 19", true);
        AskedCamp x = Edges.camp("camp 3 0;tent 0 1;tent 2 1", "go 0 if step = 0; go 1 if cell = 1 and near = 1; go 0");
        EDGES.is("asks the nearer one", x.step(), 0);
        EDGES.is("the other is the nearest not asked yet", x.step(), 1);
        x = Edges.camp("camp 3 3;bush 3;tent 3 1;tent 8 1", "go 1 if cell = 0 and near = 4");
        EDGES.is("not back into the BUSH where it is", x.step(), 0);
    }

    private static void nearWithout() {
        EDGES.sentence("near (..; 99 without)");
        holds("near = 99", true);
        holds("camp 3 0;tent 8 1;bush 5;bush 7", "near = 99", true);
        holds("camp 3 0;tent 2 1;bush 2", "near = 99", true);
        holds("camp 3 0;tent 2 1", "near = 99", false);
        AskedCamp x = Edges.camp("camp 2 0;tent 0 1", "go 1 if cell = 1 and near = 99");
        EDGES.is("one was not asked yet", x.step(), 0);
        EDGES.is("all were asked", x.step(), 1);
    }

    private static void bushes() {
        EDGES.sentence("bushes (on CELLS beside it)");
        holds("bushes = 0", true);
        holds("camp 2 0;bush 0", "bushes = 1", true);
        holds("camp 2 0;bush 0;bush 3", "bushes = 2", true);
        holds("camp 2 0;bush 2", "bushes = 0", true);
        AskedCamp x = Edges.camp("camp 3 1;bush 1;bush 3;bush 5;bush 7", "go 1 if bushes = 4");
        EDGES.is("on all four", x.step(), 4);
        x = Edges.camp("camp 3 4;bush 3;bush 6", "go 1 if cell = 5 and bushes > 0; go 1 if cell = 7 and bushes = 1");
        EDGES.is("not round the end of a row", x.step(), 7);
    }

    private static void bits() {
        EDGES.sentence("bits (how many the QUESTION has)");
        holds("bits = 0", true);
        for (int tents = 1; tents <= 6; tents++) {
            AskedCamp x = Edges.camp("camp 2 0" + ";tent 0 1".repeat(tents), "go 1 if cell = 1 and bits = " + tents);
            EDGES.is("has none yet", x.step(), 0);
            EDGES.is("has " + tents, x.step(), 1);
        }
    }

    private static void asked() {
        EDGES.sentence("asked (how often anybody was)");
        holds("camp 2 0;tent 0 1", "asked = 0", true);
        AskedCamp x = Edges.camp("camp 2 0" + ";tent 0 1".repeat(6), "go 1 if cell = 1 and asked = 12");
        EDGES.is("none", x.step(), 0);
        EDGES.is("six", x.step(), 0);
        EDGES.is("twelve", x.step(), 1);
        EDGES.is("and no more", x.step(), 1);
    }

    private static void step() {
        EDGES.sentence("step");
        holds("step = 0", true);
        AskedCamp x = Edges.camp("camp 2 0", "go 1 if cell = 1 and step = 1");
        EDGES.is("STEP 0", x.step(), 0);
        EDGES.is("STEP 1", x.step(), 1);
        x = Edges.camp("camp 2 0", "go 1 if cell = 1 and step = 0");
        x.whistle(1);
        x.whistle(0);
        EDGES.is("a whistle is none", x.step(), 1);
    }

    private static void towardsNought() {
        EDGES.sentence("/ is towards 0, % its rest");
        holds("7 / 2 = 3 and 6 / 2 = 3 and 1 / 2 = 0 and 0 / 2 = 0", true);
        holds("7 % 2 = 1 and 6 % 2 = 0 and 1 % 2 = 1 and 0 % 2 = 0", true);
        holds(LOWEST + " / 3 * 3 < 0", true);
        holds(LOWEST + " / 3 * 3 + 2 = " + LOWEST, false);
        holds(LOWEST + " / 3 * 3 - 2 = " + LOWEST, true);
        holds(LOWEST + " % 3 = 0 - 2", true);
        holds(LOWEST + " % 2 = 0", true);
        holds(LOWEST + " / 1 = " + LOWEST, true);
    }

    private static void byNought() {
        EDGES.sentence("both 0 by 0");
        holds("5 / 0 = 0 and 5 % 0 = 0 and 0 / 0 = 0 and 0 % 0 = 0", true);
        holds("5 / step = 0 and 5 % been = 0 and 5 / bits = 0", true);
        holds(LOWEST + " / 0 = 0 and " + LOWEST + " % 0 = 0", true);
        holds("1 + 5 / 0 * 7 + 2 = 3 and 9 - 5 % 0 = 9", true);
        EDGES.is("a SUM of 0 by 0 is not above 0", Edges.camp("camp 2 0", "go 5 / 0").step(), 0);
        EDGES.is("1 more is", Edges.camp("camp 2 0", "go 5 % 0 + 1").step(), 1);
    }

    private static void goesRound() {
        EDGES.sentence("all goes round in 64 bits");
        holds(LOWEST + " < 0", true);
        holds(LOWEST + " - 1 > 0", true);
        holds(LOWEST + " - 1 + 1 < 0", true);
        holds(LOWEST + " + " + LOWEST + " = 0", true);
        holds("0 - " + LOWEST + " < 0", true);
        holds("65536 * 65536 * 65536 * 65536 = 0", true);
        holds("65536 * 65536 * 65536 * 65536 + 7 = 7", true);
        EDGES.is("round below 0", Edges.camp("camp 2 0", "go " + LOWEST).step(), 0);
        EDGES.is("round above 0", Edges.camp("camp 2 0", "go " + LOWEST + " - 1").step(), 1);
        EDGES.is("the greatest of all", Edges.camp("camp 2 0", "go " + LOWEST + " - 1 if cell = 2; go 99999").step(), 2);
    }

    private static void notSooner() {
        EDGES.sentence("all goes round in 64 bits (and not in 32)");
        holds("65536 * 32768 > 0", true);
        holds("65536 * 65536 > 0", true);
        holds("65536 * 65536 * 65536 * 32767 > 0", true);
        EDGES.is("as a SUM", Edges.camp("camp 2 0", "go 65536 * 65536 if cell = 2; go 99999").step(), 2);
        EDGES.is("as a SUM below 0", Edges.camp("camp 2 0", "go 0 - 65536 * 65536 + 5 if cell = 1; go 1").step(), 2);
    }

    private static void signs() {
        EDGES.sentence("SIGN one of < <= = >= >");
        String[] signs = {"<", "<=", "=", ">=", ">"};
        boolean[][] want = {{true, true, false, false, false}, {false, true, true, true, false}, {false, false, false, true, true}};
        for (int left = 4; left <= 6; left++) {
            for (int i = 0; i < signs.length; i++) {
                holds(left + signs[i] + "5", want[left - 4][i]);
            }
        }
        holds("0 - 1 < 0", true);
        holds(LOWEST + " - 1 > " + LOWEST, true);
    }

    private static void together() {
        EDGES.sentence("TEST: PART { or PART }. PART: FACT { and FACT }. FACT: not FACT | [ TEST ]");
        holds("1=1 or 1=2 and 1=2", true);
        holds("[1=1 or 1=2] and 1=2", false);
        holds("1=2 and 1=2 or 1=1", true);
        holds("1=2 and [1=2 or 1=1]", false);
        holds("not 1=2 and 1=2", false);
        holds("not [1=2 and 1=2]", true);
        holds("not 1=1 or 1=1", true);
        holds("not [1=1 or 1=1]", false);
        holds("1=1 and 1=1 and 1=1 and 1=2", false);
        holds("1=2 or 1=2 or 1=2 or 1=1", true);
        holds("not not not 1=2", true);
        holds("2 + 3 * 4 = 14 and 20 - 5 - 5 = 10 and 20 / 5 / 2 = 2 and 2 * 7 % 4 = 2", true);
    }

    private static void aboveNought() {
        EDGES.sentence("The QUESTION goes to the CELL for which the SUM is greatest, if it is above 0 (it stays, if none is)");
        EDGES.is("1", Edges.camp("camp 3 4", "go 1").step(), 1);
        EDGES.is("0", Edges.camp("camp 3 4", "go 0").step(), 4);
        EDGES.is("0 less 1", Edges.camp("camp 3 4", "go 0 - 1").step(), 4);
        EDGES.is("1 of one alone", Edges.camp("camp 3 4", "go cell - 6").step(), 7);
        EDGES.is("0 of one alone", Edges.camp("camp 3 4", "go cell - 7").step(), 4);
        EDGES.is("the greatest", Edges.camp("camp 3 4", "go 9 if cell = 5; go 8").step(), 5);
    }

    private static void noClauseHolds() {
        EDGES.sentence("the SUM of the RULE IN FORCE's first CLAUSE without a TEST, or whose TEST holds (0 without)");
        EDGES.is("none holds", Edges.camp("camp 3 4", "go 9 if 1 = 2; go 9 if 1 = 3").step(), 4);
        EDGES.is("0 without is not above 0", Edges.camp("camp 3 4", "go 9 if 1 = 2; go 0 - 1 if cell = 1").step(), 4);
        EDGES.is("the first that holds", Edges.camp("camp 3 4", "go 1 if cell = 1; go 0 if cell < 6; go 2; go 9").step(), 7);
        EDGES.is("the first alone, if below 0", Edges.camp("camp 3 4", "go 0 - 1 if cell < 7; go 2").step(), 7);
        EDGES.is("the first without a TEST", Edges.camp("camp 3 4", "go 1; go 9 if cell = 7").step(), 1);
    }

    private static void ofSeveral() {
        EDGES.sentence("is greatest, of several the least");
        EDGES.is("of four", Edges.camp("camp 3 4", "go 5").step(), 1);
        EDGES.is("of three", Edges.camp("camp 3 4", "go 5 if cell > 1").step(), 3);
        EDGES.is("of two", Edges.camp("camp 3 4", "go 5 if cell > 3").step(), 5);
        EDGES.is("a greater one behind", Edges.camp("camp 3 4", "go 5 if cell < 7; go 6").step(), 7);
    }

    private static void noneBeside() {
        EDGES.sentence("The QUESTION goes to the CELL beside it without a BUSH (it stays, if none is)");
        AskedCamp x = Edges.camp("camp 3 4;bush 1;bush 3;bush 5;bush 7", "go 1");
        EDGES.is("BUSHES all round", x.step(), 4);
        x.bush(7);
        EDGES.is("one cleared", x.step(), 7);
        x.bush(7);
        EDGES.is("out of a BUSH", x.step(), 4);
        EDGES.is("BUSHES all round again", x.step(), 4);
        EDGES.is("not back into it", Edges.camp("camp 2 0;bush 0;bush 1", "go 9 - cell").ahead(0, 2, 0), 3);
        EDGES.is("no CELL ahead of a row's first", Edges.camp("camp 3 3", "go 1 if cell = 2").step(), 3);
        EDGES.is("no CELL behind a row's last", Edges.camp("camp 3 2", "go 1 if cell = 3").step(), 2);
    }

    private static void withoutRule() {
        EDGES.sentence("without a RULE to the first CELL of a WAY to a nearest TENT that was not asked yet, of several CELLS the least");
        EDGES.is("the nearest", Edges.camp("camp 3 4;tent 0 1;tent 7 1").step(), 7);
        EDGES.is("of two nearest", Edges.camp("camp 3 4;tent 7 1;tent 3 1").step(), 3);
        EDGES.is("of two WAYS", Edges.camp("camp 3 4;tent 8 1").step(), 5);
        EDGES.is("round a BUSH", Edges.camp("camp 3 4;tent 8 1;bush 5").step(), 7);
        EDGES.is("not to one on a BUSH", Edges.camp("camp 3 4;tent 1 1;tent 8 1;bush 1").step(), 5);
        AskedCamp x = Edges.camp("camp 3 4;tent 4 1;tent 7 1");
        EDGES.is("asks where it is", x.step(), 4);
        EDGES.is("not asked yet", x.step(), 7);
    }

    private static void withoutRuleStays() {
        EDGES.sentence("(it stays, if such a TENT is on its CELL, or to none is a WAY)");
        EDGES.is("without TENTS", Edges.camp("camp 3 4").step(), 4);
        EDGES.is("one is there", Edges.camp("camp 3 4;tent 1 1;tent 4 1").step(), 4);
        EDGES.is("one is there, on a BUSH", Edges.camp("camp 3 4;tent 4 1;bush 4").step(), 4);
        EDGES.is("no WAY", Edges.camp("camp 3 0;tent 8 1;bush 5;bush 7").step(), 0);
        EDGES.is("no WAY into a BUSH", Edges.camp("camp 3 0;tent 1 1;bush 1").step(), 0);
        AskedCamp x = Edges.camp("camp 3 4;tent 4 1");
        x.step();
        EDGES.is("all were asked", x.step(), 4);
        EDGES.is("and one asked there is asked again", x.tent(0, 2), 2);
    }

    private static void cameOnceMore() {
        EDGES.sentence("It came there once more.");
        AskedCamp x = Edges.camp("camp 2 0", "go 1 if step % 2 = 1 and cell < 2");
        int[][] been = {{1, 0}, {1, 1}, {1, 2}, {2, 2}};
        for (int i = 0; i < 4; i++) {
            x.step();
            EDGES.is("CELL 0 behind STEP " + i, x.cell(0, 1), been[i][0]);
            EDGES.is("CELL 1 behind STEP " + i, x.cell(1, 1), been[i][1]);
        }
    }

    private static void nerveAtLeast() {
        EDGES.sentence("ASKED: once more; NERVE is 1 less, 0 at least");
        AskedCamp x = Edges.camp("camp 2 0;tent 0 2;tent 0 0;tent 1 5", "go 0");
        int[] left = {1, 0, 0};
        for (int i = 0; i < 3; i++) {
            x.step();
            EDGES.is("of 2 behind STEP " + i, x.tent(0, 1), left[i]);
            EDGES.is("of 0 behind STEP " + i, x.tent(1, 1), 0);
            EDGES.is("of one elsewhere", x.tent(2, 1), 5);
            EDGES.is("asked", x.tent(0, 2) * 100 + x.tent(1, 2) * 10 + x.tent(2, 2), 110 * (i + 1));
        }
    }

    private static void takesAndLeaves() {
        EDGES.sentence("TENTS by numbers; the QUESTION has all BITS that one KNOWS, too; then that one KNOWS all that it has");
        AskedCamp x = Edges.camp("camp 2 0" + ";tent 0 1".repeat(6), "go 0");
        x.step();
        for (int tent = 0; tent < 6; tent++) {
            EDGES.is("of those ahead of TENT " + tent, x.tent(tent, 3), (2 << tent) - 1);
        }
        EDGES.is("the QUESTION has all", x.count(6), 63);
        x.step();
        EDGES.is("the first knows all", x.tent(0, 3), 63);
    }
}
