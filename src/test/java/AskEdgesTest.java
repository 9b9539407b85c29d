import java.util.Arrays;
import java.util.List;
import java.util.function.Consumer;
import java.util.function.ToIntFunction;

/** The edges of what is asked of the steps to come and of the ground: promises 15 to 26. */
public final class AskEdgesTest {
    private static final Edges EDGES = new Edges();
    /** From STEP 0 on 60 STEPS without a ring, on a camp of SIDE 6. */
    private static final String ON = "go 1 + step * step / 3 * cell % 11";

    private static final List<ToIntFunction<AskedCamp>> QUESTIONS = List.of(x -> x.tent(0, 2), x -> x.cell(0, 1),
            x -> x.count(12), x -> x.ahead(0, 100, 0), x -> x.ahead(2, 7, 2), x -> x.first(0), x -> x.way(15),
            x -> x.reach(36), x -> x.knowsAll(1), x -> x.most(100, 0), x -> x.most(3, 1), x -> x.cut(0, 0),
            x -> x.cut(0, 1), x -> x.hide(1, 30, 0), x -> x.hide(0, 30, 1), x -> x.wake(30, 0), x -> x.wake(3, 1),
            x -> x.pence(9999, 0), x -> x.game(0, 4, 0), x -> x.game(2, 1, 1), x -> x.ring(0), x -> x.ring(1),
            x -> x.ruled(0), x -> x.ruled(1), x -> x.look(0), x -> x.look(1), x -> x.winds(10, 60, 50, 0),
            x -> x.winds(2, 3, 0, 1));

    public static void main(String[] args) {
        ahead();
        aheadOfWhat();
        aheadNoneAndAll();
        aheadWhere();
        firstOf200();
        firstThisOne();
        firstTent();
        way();
        wayNone();
        wayWithoutBush();
        reach();
        reachNoneAndAll();
        allOf200();
        allNow();
        allTent();
        most();
        mostOfSeveral();
        mostNone();
        cutWhat();
        cutFewest();
        cutNone();
        cutWhere();
        cutFirstSet();
        hide();
        hideSteps();
        hideWhere();
        wake();
        wakeSteps();
        wakeOfSeveral();
        pence();
        penceParts();
        penceNothing();
        game();
        gameTurns();
        gameGround();
        gameLeast();
        ringWhat();
        ringFirstOf60();
        ringLaterAtMost();
        ringAlike();
        ringNone();
        nothingChanges();
        whateverWasAsked();
        EDGES.close();
    }

    private static Consumer<AskedCamp> rich() {
        return Looks::rich;
    }

    /** A question on cell 0 that goes to cell 1 in one step alone, and stays else. */
    private static AskedCamp goesOnce(String tents, int step) {
        return Edges.camp("camp 2 0" + tents, "go 1 if cell = 1 and step = " + step);
    }

    // ---- the steps to come

    private static void ahead() {
        EDGES.sentence("AHEAD n STEPS (0 to 100). NONE without these, or a CAMP.");
        for (int i = 0; i < 3; i++) {
            int what = i;
            EDGES.range("ahead(0, n, " + what + ")", rich(), (x, n) -> x.ahead(0, n, what), 0, 100, -1);
        }
        EDGES.leaves("without a CAMP", Looks::campless, x -> x.ahead(0, 0, 0), -1);
    }

    private static void aheadOfWhat() {
        EDGES.sentence("AHEAD what 0: where, 1: how often, 2: what it KNOWS. NONE without these");
        EDGES.range("ahead(0, 1, n)", rich(), (x, n) -> x.ahead(0, 1, n), 0, 2, -1);
        EDGES.range("ahead(n, 1, 1)", rich(), (x, n) -> x.ahead(n, 1, 1), 0, 3, -1);
        EDGES.range("ahead(n, 1, 2)", rich(), (x, n) -> x.ahead(n, 1, 2), 0, 3, -1);
    }

    private static void aheadNoneAndAll() {
        EDGES.sentence("AHEAD n STEPS (0 to 100)");
        AskedCamp x = goesOnce(";tent 1 1;tent 1 1", 99);
        EDGES.is("0: where it is", x.ahead(0, 0, 0), 0);
        EDGES.is("99", x.ahead(0, 99, 0), 0);
        EDGES.is("100", x.ahead(0, 100, 0), 1);
        EDGES.is("asked in 99", x.ahead(1, 99, 1), 0);
        EDGES.is("asked in 100", x.ahead(1, 100, 1), 1);
        EDGES.is("KNOWS in 99", x.ahead(1, 99, 2), 2);
        EDGES.is("KNOWS in 100", x.ahead(1, 100, 2), 3);
        EDGES.is("in STEP 100 no more", goesOnce("", 100).ahead(0, 100, 0), 0);
        AskedCamp asked = Edges.camp("camp 2 0;tent 0 1", "go 0");
        asked.step();
        EDGES.is("asked in 0, as often as it was", asked.ahead(0, 0, 1), 1);
        EDGES.is("asked in 100, with what it was", asked.ahead(0, 100, 1), 101);
    }

    private static void aheadWhere() {
        EDGES.sentence("what 0: where (tent is not asked)");
        AskedCamp x = Edges.camp("camp 2 0", "go 1");
        for (int tent : new int[] {Integer.MIN_VALUE, -1, 0, 5, 6, Integer.MAX_VALUE}) {
            EDGES.is("of TENT " + tent, x.ahead(tent, 1, 0), 1);
            EDGES.is("of TENT " + tent + ", 101 STEPS", x.ahead(tent, 101, 0), -1);
        }
    }

    private static void firstOf200() {
        EDGES.sentence("FIRST of a TENT: the first STEP, of 200, in which it is ASKED; -2: in none of these");
        EDGES.is("in STEP 0", goesOnce(";tent 1 1", 0).first(0), 0);
        EDGES.is("in STEP 199", goesOnce(";tent 1 1", 199).first(0), 199);
        EDGES.is("in STEP 200", goesOnce(";tent 1 1", 200).first(0), -2);
        EDGES.is("never", goesOnce(";tent 3 1", 0).first(0), -2);
        AskedCamp x = goesOnce(";tent 1 1", 203);
        for (int i = 0; i < 3; i++) {
            x.step();
        }
        EDGES.is("in STEP 203 from 3 on", x.first(0), -2);
        x.step();
        EDGES.is("in STEP 203 from 4 on", x.first(0), 203);
    }

    private static void firstThisOne() {
        EDGES.sentence("the first STEP, this one the first");
        AskedCamp x = Edges.camp("camp 2 0;tent 0 1;tent 1 1", "go 1 if cell = 1 and step > 2");
        for (int i = 0; i < 3; i++) {
            EDGES.is("where it is, in STEP " + i, x.first(0), i);
            EDGES.is("elsewhere, in STEP " + i, x.first(1), 3);
            x.step();
        }
        EDGES.is("this one", x.first(1), 3);
        x.step();
        EDGES.is("again", x.first(1), 4);
        EDGES.is("left behind", x.first(0), -2);
    }

    private static void firstTent() {
        EDGES.sentence("FIRST; NONE without that TENT.");
        EDGES.range("first(n)", rich(), (x, n) -> x.first(n), 0, 3, -1);
        EDGES.is("of none", Edges.camp("camp 2 0").first(0), -1);
    }

    private static void way() {
        EDGES.sentence("WAY; NONE without that CELL.");
        for (int side = 2; side <= 6; side++) {
            String camp = "camp " + side + " 0";
            EDGES.range("SIDE " + side, x -> Tape.camp(x, camp), (x, n) -> x.way(n), 0, side * side - 1, -1);
        }
    }

    private static void wayNone() {
        EDGES.sentence("WAY; -2: there is none");
        AskedCamp x = Edges.camp("camp 3 0;bush 5;bush 7");
        EDGES.is("to one shut off", x.way(8), -2);
        EDGES.is("to a BUSH", x.way(5), -2);
        EDGES.is("to another one", x.way(4), 2);
        x.bush(7);
        EDGES.is("round a BUSH", x.way(8), 4);
        EDGES.is("out of BUSHES all round", Edges.camp("camp 2 0;bush 1;bush 2").way(3), -2);
    }

    private static void wayWithoutBush() {
        EDGES.sentence("without a BUSH on any but the first; how many it has without the first");
        AskedCamp x = Edges.camp("camp 3 0;bush 0");
        EDGES.is("its own, with a BUSH", x.way(0), 0);
        EDGES.is("out of a BUSH, beside", x.way(1), 1);
        EDGES.is("out of a BUSH, to the last", x.way(8), 4);
        AskedCamp snake = Edges.camp("camp 6 0;bush 6;bush 7;bush 8;bush 9;bush 10;bush 19;bush 20;bush 21;bush 22;bush 23"
                + ";bush 30;bush 31;bush 32;bush 33;bush 34");
        EDGES.is("the long way round", snake.way(35), 20);
        EDGES.is("reach one less", snake.reach(19), 20);
        EDGES.is("reach it", snake.reach(20), 21);
    }

    private static void reach() {
        EDGES.sentence("REACH in n STEPS (0 to 36); NONE without these, or a CAMP.");
        EDGES.range("reach(n)", rich(), (x, n) -> x.reach(n), 0, 36, -1);
        EDGES.leaves("without a CAMP", Looks::campless, x -> x.reach(0), -1);
    }

    private static void reachNoneAndAll() {
        EDGES.sentence("CELLS to which it can come in n STEPS by any ways (its own, too)");
        EDGES.is("in 0", Edges.camp("camp 6 14").reach(0), 1);
        EDGES.is("in 0, with a BUSH", Edges.camp("camp 6 14;bush 14").reach(0), 1);
        EDGES.is("in 1", Edges.camp("camp 6 14").reach(1), 5);
        EDGES.is("in 1, in the corner", Edges.camp("camp 6 35").reach(1), 3);
        EDGES.is("in 9, to all but one", Edges.camp("camp 6 0").reach(9), 35);
        EDGES.is("in 10, to all", Edges.camp("camp 6 0").reach(10), 36);
        EDGES.is("in 36, to all", Edges.camp("camp 6 0").reach(36), 36);
        EDGES.is("BUSHES all round", Edges.camp("camp 2 0;bush 1;bush 2").reach(36), 1);
    }

    private static void allOf200() {
        EDGES.sentence("ALL of a TENT: the first STEP, of 200, behind which it KNOWS all BITS of all TENTS; -2: behind none of these");
        EDGES.is("behind STEP 0", goesOnce(";tent 1 1;tent 1 1", 0).knowsAll(1), 0);
        EDGES.is("behind STEP 199", goesOnce(";tent 1 1;tent 1 1", 199).knowsAll(1), 199);
        EDGES.is("behind STEP 200", goesOnce(";tent 1 1;tent 1 1", 200).knowsAll(1), -2);
        EDGES.is("one BIT is missing", goesOnce(";tent 1 1;tent 1 1;tent 3 1", 0).knowsAll(1), -2);
        EDGES.is("of six", goesOnce(";tent 1 1".repeat(6), 7).knowsAll(5), 7);
        EDGES.is("the first of six, asked once more", goesOnce(";tent 1 1".repeat(6), 7).knowsAll(0), 8);
        AskedCamp x = goesOnce(";tent 1 1;tent 1 1", 201);
        x.step();
        EDGES.is("behind STEP 201 from 1 on", x.knowsAll(1), -2);
        x.step();
        EDGES.is("behind STEP 201 from 2 on", x.knowsAll(1), 201);
    }

    private static void allNow() {
        EDGES.sentence("(this STEP less 1: it does now)");
        AskedCamp x = Edges.camp("camp 2 0;tent 3 1");
        EDGES.is("in STEP 0", x.knowsAll(0), -1);
        x.step();
        EDGES.is("in STEP 1", x.knowsAll(0), 0);
        x.step();
        x.step();
        EDGES.is("in STEP 3", x.knowsAll(0), 2);
    }

    private static void allTent() {
        EDGES.sentence("ALL; -3 without that TENT.");
        EDGES.range("knowsAll(n)", rich(), (x, n) -> x.knowsAll(n), 0, 3, -3);
        EDGES.is("of none", Edges.camp("camp 2 0").knowsAll(0), -3);
    }

    private static void most() {
        EDGES.sentence("MOST for n STEPS (1 to 100) what 0: which, 1: how often. NONE without these, or a CAMP.");
        EDGES.range("most(n, 0)", rich(), (x, n) -> x.most(n, 0), 1, 100, -1);
        EDGES.range("most(n, 1)", rich(), (x, n) -> x.most(n, 1), 1, 100, -1);
        EDGES.range("most(1, n)", rich(), (x, n) -> x.most(1, n), 0, 1, -1);
        EDGES.leaves("without a CAMP", Looks::campless, x -> x.most(1, 0), -1);
        AskedCamp x = goesOnce(";tent 3 1;tent 1 1", 99);
        EDGES.is("in 99", x.most(99, 1), 0);
        EDGES.is("in 100", x.most(100, 1), 1);
        EDGES.is("in 100, which", x.most(100, 0), 1);
        EDGES.is("in STEP 100 no more", goesOnce(";tent 1 1", 100).most(100, 1), 0);
        EDGES.is("in 1", goesOnce(";tent 1 1", 0).most(1, 1), 1);
        EDGES.is("in 1, not in STEP 1", goesOnce(";tent 1 1", 1).most(1, 1), 0);
    }

    private static void mostOfSeveral() {
        EDGES.sentence("the TENT that is ASKED most often in these, of several the least");
        AskedCamp x = Edges.camp("camp 2 0;tent 1 1;tent 0 1;tent 0 1;tent 1 1", "go 1 if cell = 1 and step > 2");
        EDGES.is("of two, in 3", x.most(3, 0), 1);
        EDGES.is("of two, how often", x.most(3, 1), 3);
        EDGES.is("of four, in 6", x.most(6, 0), 0);
        EDGES.is("in 5", x.most(5, 0), 1);
        EDGES.is("in 7", x.most(7, 0), 0);
        x.step();
        x.step();
        EDGES.is("what was asked before does not count", x.most(3, 0), 0);
        EDGES.is("nor how often", x.most(3, 1), 2);
    }

    private static void mostNone() {
        EDGES.sentence("which (-2: there is none), how often (0 likewise)");
        AskedCamp x = Edges.camp("camp 2 0");
        EDGES.is("which", x.most(1, 0), -2);
        EDGES.is("how often", x.most(1, 1), 0);
        EDGES.is("which of 100", x.most(100, 0), -2);
        EDGES.is("which, 101", x.most(101, 0), -1);
        AskedCamp later = Edges.camp("camp 2 0;tent 0 1");
        EDGES.is("asked", later.most(100, 1), 100);
        Tape.camp(later, "camp 2 0");
        EDGES.is("none any more", later.most(100, 1), 0);
        EDGES.is("none any more", later.most(100, 0), -2);
        EDGES.is("nobody is ASKED", Edges.camp("camp 2 0;tent 3 1;bush 3").most(100, 1), 0);
    }

    // ---- cut

    private static void cuts(AskedCamp x, int tent, int... want) {
        for (int what = 0; what < 4; what++) {
            EDGES.is("cut(" + tent + ", " + what + ")", x.cut(tent, what), want[what]);
        }
    }

    private static void cutWhat() {
        EDGES.sentence("CUT what 0: how many, 1 to 3: the CELLS of the first set. NONE without these.");
        EDGES.range("cut(0, n)", rich(), (x, n) -> x.cut(0, n), 0, 3, -1);
        for (int i = 0; i < 4; i++) {
            int what = i;
            EDGES.range("cut(n, " + what + ")", rich(), (x, n) -> x.cut(n, what), 0, 3, -1);
        }
        EDGES.is("of none", Edges.camp("camp 2 0").cut(0, 0), -1);
    }

    private static void cutFewest() {
        EDGES.sentence("the fewest BUSHES more, 3 at most; the CELLS of the first set (-2: it has not so many)");
        cuts(Edges.camp("camp 3 0;tent 8 1;bush 5;bush 7"), 0, 0, -2, -2, -2);
        cuts(Edges.camp("camp 3 0;tent 8 1;bush 8"), 0, 0, -2, -2, -2);
        cuts(Edges.camp("camp 3 0;tent 8 1;bush 1"), 0, 1, 3, -2, -2);
        cuts(Edges.camp("camp 3 0;tent 8 1"), 0, 2, 1, 3, -2);
        cuts(Edges.camp("camp 5 12;tent 2 1;bush 7"), 0, 2, 1, 3, -2);
        cuts(Edges.camp("camp 5 14;tent 10 1"), 0, 3, 5, 11, 15);
    }

    private static void cutNone() {
        EDGES.sentence("-2: by none");
        cuts(Edges.camp("camp 5 10;tent 13 1;bush 11;tent 12 1"), 0, 2, 5, 15, -2);
        cuts(Edges.camp("camp 6 14;tent 28 1"), 0, -2, -2, -2, -2);
        cuts(Edges.camp("camp 3 4;tent 4 1"), 0, -2, -2, -2, -2);
        cuts(Edges.camp("camp 3 4;tent 4 1;bush 4"), 0, -2, -2, -2, -2);
        cuts(Edges.camp("camp 3 4;tent 3 1"), 0, -2, -2, -2, -2);
        cuts(Edges.camp("camp 2 0;tent 1 1"), 0, -2, -2, -2, -2);
    }

    private static void cutWhere() {
        EDGES.sentence("on CELLS without one, where neither the QUESTION nor that TENT is");
        cuts(Edges.camp("camp 2 0;tent 3 1"), 0, 2, 1, 2, -2);
        cuts(Edges.camp("camp 2 0;tent 3 1;bush 1"), 0, 1, 2, -2, -2);
        cuts(Edges.camp("camp 2 0;tent 3 1;bush 2;tent 1 1"), 0, 1, 1, -2, -2);
        cuts(Edges.camp("camp 2 3;tent 0 1"), 0, 2, 1, 2, -2);
        cuts(Edges.camp("camp 2 1;tent 2 1;bush 1"), 0, 2, 0, 3, -2);
    }

    private static void cutFirstSet() {
        EDGES.sentence("the first set (the least CELL, then the next)");
        cuts(Edges.camp("camp 3 0;tent 8 1;tent 2 1;tent 6 1"), 1, 2, 1, 3, -2);
        cuts(Edges.camp("camp 3 0;tent 8 1;tent 2 1;tent 6 1"), 2, 2, 1, 3, -2);
        cuts(Edges.camp("camp 3 8;tent 0 1"), 0, 2, 1, 3, -2);
        cuts(Edges.camp("camp 3 3;tent 5 1"), 0, 3, 0, 4, 6);
        cuts(Edges.camp("camp 3 5;tent 3 1"), 0, 3, 0, 4, 6);
        cuts(Edges.camp("camp 3 0;tent 8 1;bush 4"), 0, 2, 1, 3, -2);
        cuts(Edges.camp("camp 3 0;tent 8 1;bush 2;bush 6;bush 7"), 0, 1, 4, -2, -2);
        cuts(Edges.camp("camp 6 14;tent 35 1"), 0, 2, 29, 34, -2);
        cuts(Edges.camp("camp 6 35;tent 0 1"), 0, 2, 1, 6, -2);
    }

    // ---- hide and wake

    private static void hide() {
        EDGES.sentence("HIDE of a TENT for n STEPS (1 to 30) what 0: the CELL, 1: how often. NONE without these.");
        for (int i = 0; i < 2; i++) {
            int what = i;
            EDGES.range("hide(0, n, " + what + ")", rich(), (x, n) -> x.hide(0, n, what), 1, 30, -1);
            EDGES.range("hide(n, 1, " + what + ")", rich(), (x, n) -> x.hide(n, 1, what), 0, 3, -1);
        }
        EDGES.range("hide(0, 1, n)", rich(), (x, n) -> x.hide(0, 1, n), 0, 1, -1);
        EDGES.is("of none", Edges.camp("camp 2 0").hide(0, 1, 0), -1);
    }

    private static void hideSteps() {
        EDGES.sentence("for n STEPS (1 to 30), so that it is ASKED least often in these");
        EDGES.is("in 29", goesOnce(";tent 3 1", 29).hide(0, 29, 0), 1);
        EDGES.is("in 30", goesOnce(";tent 3 1", 29).hide(0, 30, 0), 2);
        EDGES.is("not in STEP 30", goesOnce(";tent 3 1", 30).hide(0, 30, 0), 1);
        EDGES.is("in 1", goesOnce(";tent 3 1", 0).hide(0, 1, 0), 0);
        EDGES.is("in 1, not in STEP 1", goesOnce(";tent 3 1", 1).hide(0, 1, 0), 1);
        AskedCamp all = Edges.camp("camp 2 0;tent 3 1");
        EDGES.is("asked from the third on", all.hide(0, 30, 1), 29);
        EDGES.is("asked there", all.hide(0, 30, 0), 3);
        AskedCamp asked = Edges.camp("camp 2 0;tent 0 1", "go 0");
        asked.step();
        EDGES.is("how often it was does not count", asked.hide(0, 5, 1), 0);
    }

    private static void hideWhere() {
        EDGES.sentence("the CELL on which it had best be pitched now (where it is, too); of several the least");
        EDGES.is("the first", Edges.camp("camp 2 3;tent 3 1", "go 0").hide(0, 5, 0), 0);
        EDGES.is("the second, where it is", Edges.camp("camp 2 0;tent 1 1", "go 0").hide(0, 5, 0), 1);
        EDGES.is("the first alone", Edges.camp("camp 2 1;tent 1 1", "go 1 if step = 1 and cell = 3; go 1 if step = 2 and cell = 2")
                .hide(0, 3, 0), 0);
        EDGES.is("the last alone", Edges.camp("camp 2 1;tent 1 1", "go 1 if step = 1 and cell = 0; go 1 if step = 2 and cell = 2")
                .hide(0, 3, 0), 3);
        EDGES.is("a BUSH", Edges.camp("camp 2 1;tent 3 1;bush 0", "go 0").hide(0, 5, 0), 0);
        EDGES.is("how often at the best", Edges.camp("camp 2 0;tent 0 1").hide(0, 1, 1), 0);
        AskedCamp near = Edges.camp("camp 3 4;tent 4 1;bush 1;bush 3;bush 5;bush 7");
        EDGES.is("where there is no WAY", near.hide(0, 30, 0), 0);
    }

    private static void wake() {
        EDGES.sentence("WAKE for n STEPS (1 to 30) what 0: which (NONE: none), 1: how many. -2 without these, or a CAMP.");
        EDGES.range("wake(n, 0)", rich(), (x, n) -> x.wake(n, 0), 1, 30, -2);
        EDGES.range("wake(n, 1)", rich(), (x, n) -> x.wake(n, 1), 1, 30, -2);
        EDGES.range("wake(1, n)", rich(), (x, n) -> x.wake(1, n), 0, 1, -2);
        EDGES.leaves("without a CAMP", Looks::campless, x -> x.wake(1, 0), -2);
        AskedCamp none = Edges.camp("camp 2 0");
        EDGES.is("of no TENTS, which", none.wake(30, 0), -1);
        EDGES.is("of no TENTS, how many", none.wake(30, 1), 0);
    }

    private static void wakeSteps() {
        EDGES.sentence("for n STEPS (1 to 30), so that most TENTS that were never asked then are ASKED in these");
        EDGES.is("in 29", goesOnce(";tent 1 1", 29).wake(29, 1), 0);
        EDGES.is("in 30", goesOnce(";tent 1 1", 29).wake(30, 1), 1);
        EDGES.is("not in STEP 30", goesOnce(";tent 1 1", 30).wake(30, 1), 0);
        EDGES.is("in 1", goesOnce(";tent 1 1", 0).wake(1, 1), 1);
        EDGES.is("in 1, not in STEP 1", goesOnce(";tent 1 1", 1).wake(1, 1), 0);
        EDGES.is("all six", goesOnce(";tent 1 1".repeat(6), 0).wake(1, 1), 6);
        AskedCamp asked = Edges.camp("camp 2 0;tent 0 1;tent 1 1", "go 1 if cell = 1 and step = 1");
        asked.step();
        EDGES.is("those asked before do not count", asked.wake(5, 1), 1);
        EDGES.is("nothing more to ask", Edges.camp("camp 2 0;tent 0 1;tent 3 1;bush 3").wake(30, 1), 1);
    }

    private static void wakeOfSeveral() {
        EDGES.sentence("of several none, then the least; how many");
        AskedCamp x = Edges.camp("camp 6 2;tent 0 1;tent 5 1;tent 4 1");
        EDGES.is("in 3, the first", x.wake(3, 0), 0);
        EDGES.is("in 3, two instead of one", x.wake(3, 1), 2);
        EDGES.is("in 2, none", x.wake(2, 0), -1);
        EDGES.is("in 30, none", x.wake(30, 0), -1);
        EDGES.is("in 30, all", x.wake(30, 1), 3);
        AskedCamp two = Edges.camp("camp 2 0;tent 1 1;tent 3 1;tent 2 1", "go 1 if asked = 1");
        EDGES.is("of two the least; the first would be woken itself", two.wake(1, 0), 1);
        EDGES.is("one instead of none", two.wake(1, 1), 1);
        AskedCamp same = Edges.camp("camp 2 0;tent 2 1;tent 1 1;tent 3 1", "go 1 if asked = 1");
        EDGES.is("the least of all", same.wake(1, 0), 0);
        AskedCamp nerve = Edges.camp("camp 2 0;tent 2 1;tent 1 0", "go 1 if nerve = 0 or bits > 0");
        EDGES.is("nothing else is otherwise", nerve.wake(1, 0), -1);
        EDGES.is("nothing else is otherwise", nerve.wake(1, 1), 1);
    }

    // ---- pence

    private static void pence() {
        EDGES.sentence("PENCE (0 to 9999) of a TENT; NONE without these.");
        EDGES.range("pence(n, 0)", rich(), (x, n) -> x.pence(n, 0), 0, 9999, -1);
        EDGES.range("pence(1, n)", rich(), (x, n) -> x.pence(1, n), 0, 3, -1);
        EDGES.is("of none", Edges.camp("camp 2 0").pence(1, 0), -1);
        EDGES.is("all of them", paid(1).pence(9999, 0), 9999);
        EDGES.is("none of them", paid(1).pence(0, 0), 0);
    }

    /** Tents that were asked so often each. */
    private static AskedCamp paid(int... often) {
        AskedCamp x = Edges.camp("camp 2 0" + ";tent 3 1".repeat(often.length), "go 0");
        for (int tent = 0; tent < often.length; tent++) {
            x.pitch(tent, often[tent] > 0 ? 0 : 3);
        }
        for (int i = 1; x.count(8) < Arrays.stream(often).sum(); i++) {
            x.step();
            for (int tent = 0; tent < often.length; tent++) {
                x.pitch(tent, often[tent] > i ? 0 : 3);
            }
        }
        return x;
    }

    private static void parted(int much, int[] often, int... want) {
        AskedCamp x = paid(often);
        for (int tent = 0; tent < want.length; tent++) {
            EDGES.is(much + " among " + Arrays.toString(often) + ", TENT " + tent, x.pence(much, tent), want[tent]);
        }
    }

    private static void penceParts() {
        EDGES.sentence("each the part downwards; what is left, one each, to those whose part lost most by that, of several the least first");
        parted(9, new int[] {1, 1, 1}, 3, 3, 3);
        parted(10, new int[] {1, 1, 1}, 4, 3, 3);
        parted(11, new int[] {1, 1, 1}, 4, 4, 3);
        parted(1, new int[] {1, 1, 1, 1, 1, 1}, 1, 0, 0, 0, 0, 0);
        parted(5, new int[] {1, 1, 1, 1, 1, 1}, 1, 1, 1, 1, 1, 0);
        parted(1, new int[] {1, 2}, 0, 1);
        parted(2, new int[] {1, 2}, 1, 1);
        parted(3, new int[] {1, 2}, 1, 2);
        parted(2, new int[] {3, 1, 2}, 1, 0, 1);
        parted(9999, new int[] {1, 1}, 5000, 4999);
        parted(9999, new int[] {5, 3, 1}, 5555, 3333, 1111);
        parted(7, new int[] {0, 2, 0}, 0, 7, 0);
        parted(0, new int[] {1, 2}, 0, 0);
    }

    private static void penceNothing() {
        EDGES.sentence("(nothing, if none was)");
        parted(9999, new int[] {0, 0}, 0, 0);
        parted(0, new int[] {0, 0}, 0, 0);
        AskedCamp x = Edges.camp("camp 2 0;tent 0 1");
        EDGES.is("not yet", x.pence(9999, 0), 0);
        x.step();
        EDGES.is("asked once", x.pence(9999, 0), 9999);
        x.undo();
        EDGES.is("undone", x.pence(9999, 0), 0);
    }

    // ---- game

    private static void games(AskedCamp x, int tent, int n, int gap, int cell) {
        EDGES.is("game(" + tent + ", " + n + ", 0)", x.game(tent, n, 0), gap);
        EDGES.is("game(" + tent + ", " + n + ", 1)", x.game(tent, n, 1), cell);
    }

    private static void game() {
        EDGES.sentence("GAME of a TENT for n turns (1 to 4) what 0: how many, 1: the CELL. NONE without these.");
        for (int i = 0; i < 2; i++) {
            int what = i;
            EDGES.range("game(0, n, " + what + ")", rich(), (x, n) -> x.game(0, n, what), 1, 4, -1);
            EDGES.range("game(n, 1, " + what + ")", rich(), (x, n) -> x.game(n, 1, what), 0, 3, -1);
        }
        EDGES.range("game(0, 1, n)", rich(), (x, n) -> x.game(0, 1, n), 0, 1, -1);
        EDGES.is("of none", Edges.camp("camp 2 0").game(0, 1, 0), -1);
    }

    private static void gameTurns() {
        EDGES.sentence("by turns, the QUESTION first; behind the last turn");
        AskedCamp x = Edges.camp("camp 6 0;tent 3 0");
        games(x, 0, 1, 2, 1);
        games(x, 0, 2, 3, 1);
        games(x, 0, 3, 2, 1);
        games(x, 0, 4, 3, 1);
        AskedCamp corner = Edges.camp("camp 2 0;tent 3 0");
        games(corner, 0, 1, 1, 1);
        games(corner, 0, 2, 2, 0);
        games(corner, 0, 3, 1, 0);
        games(corner, 0, 4, 2, 0);
    }

    private static void gameGround() {
        EDGES.sentence("it goes to a CELL beside without a BUSH, or stays; the TENT is pitched on a CELL beside its own, BUSH or not, or stays");
        games(Edges.camp("camp 3 0;tent 2 0;bush 1"), 0, 1, 2, 0);
        games(Edges.camp("camp 3 0;tent 2 0;bush 1;bush 3"), 0, 3, 3, 0);
        games(Edges.camp("camp 3 0;tent 2 0;bush 0"), 0, 1, 1, 1);
        games(Edges.camp("camp 3 0;tent 4 0;bush 1;bush 3;bush 5;bush 7"), 0, 2, 3, 0);
        games(Edges.camp("camp 2 0;tent 0 0"), 0, 1, 0, 0);
        games(Edges.camp("camp 2 0;tent 0 0;bush 0"), 0, 1, 0, 0);
        games(Edges.camp("camp 2 0;tent 0 0"), 0, 2, 1, 0);
        games(Edges.camp("camp 2 0;tent 0 0;bush 1;bush 2"), 0, 4, 2, 0);
        games(Edges.camp("camp 3 3;tent 2 0"), 0, 1, 2, 0);
        games(Edges.camp("camp 3 0;tent 8 0;bush 8"), 0, 2, 3, 1);
    }

    private static void gameLeast() {
        EDGES.sentence("the QUESTION's first CELL (the least that does)");
        games(Edges.camp("camp 3 4;tent 8 0"), 0, 1, 1, 5);
        games(Edges.camp("camp 3 4;tent 6 0"), 0, 1, 1, 3);
        games(Edges.camp("camp 3 4;tent 7 0"), 0, 1, 0, 7);
        games(Edges.camp("camp 3 4;tent 4 0"), 0, 1, 0, 4);
        games(Edges.camp("camp 3 4;tent 4 0"), 0, 2, 1, 4);
        games(Edges.camp("camp 3 8;tent 0 0"), 0, 1, 3, 5);
        games(Edges.camp("camp 3 8;tent 0 0"), 0, 2, 3, 5);
        games(Edges.camp("camp 3 8;tent 0 0"), 0, 3, 2, 5);
        games(Edges.camp("camp 3 8;tent 0 0"), 0, 4, 2, 5);
        games(Edges.camp("camp 3 0;tent 3 0"), 0, 3, 0, 3);
    }

    // ---- ring

    private static void rings(AskedCamp x, int step, int later) {
        EDGES.is("the STEP", x.ring(0), step);
        EDGES.is("how much later", x.ring(1), later);
    }

    private static AskedCamp wide(String rule) {
        return Edges.camp("camp 6 0", rule);
    }

    private static void ringWhat() {
        EDGES.sentence("RING what 0: the STEP, 1: how much later. NONE for others, or without a CAMP.");
        EDGES.range("ring(n)", rich(), (x, n) -> x.ring(n), 0, 1, -1);
        EDGES.leaves("without a CAMP", Looks::campless, x -> x.ring(0), -1);
        EDGES.leaves("without a CAMP", Looks::campless, x -> x.ring(1), -1);
    }

    private static void ringFirstOf60() {
        EDGES.sentence("RING: the first STEP, this one the first, of 60");
        rings(wide("go 0"), 0, 1);
        rings(wide("go 1"), 0, 2);
        rings(wide(ON + " if step < 1"), 1, 1);
        rings(wide(ON + " if step < 58"), 58, 1);
        rings(wide(ON + " if step < 59"), 59, 1);
        rings(wide(ON + " if step < 60"), -2, -2);
        AskedCamp x = wide(ON + " if step < 62");
        for (int i = 0; i < 2; i++) {
            x.step();
        }
        rings(x, -2, -2);
        x.step();
        rings(x, 62, 1);
    }

    private static AskedCamp after(int steps, String rule) {
        AskedCamp x = wide(rule);
        for (int i = 0; i < steps; i++) {
            x.step();
        }
        return x;
    }

    private static void ringLaterAtMost() {
        EDGES.sentence("a later one, 60 STEPS from now at most; how much later the first such is");
        rings(after(59, "go 1 + step % 59 * cell % 5 if step % 59 > 0"), 59, 59);
        rings(after(60, "go 1 + step % 60 * cell % 8"), 60, 60);
        rings(after(61, "go 1 + step % 61 * cell % 22 if step % 61 > 0"), -2, -2);
        rings(wide(ON + " if step < 58; go 1 if cell = 2 or cell = 3"), 58, 2);
        // from CELL 2 to and fro between 1 and 0, alike in STEPS 59 and 61 first
        rings(wide(ON + " if step < 58; go 1 if cell < 2"), -2, -2);
    }

    private static void ringAlike() {
        EDGES.sentence("and in the 5 STEPS behind each of these alike");
        rings(wide(ON + " if step > 4"), -2, -2);
        rings(wide(ON + " if step > 5"), 0, 1);
        rings(wide(ON + " if step > 6"), 0, 1);
        rings(wide(ON + " if step < 59 or step > 63"), -2, -2);
        rings(wide(ON + " if step < 59 or step > 64"), 59, 1);
    }

    private static void ringNone() {
        EDGES.sentence("RING; -2: there is none");
        rings(wide(ON), -2, -2);
        rings(Edges.camp("camp 2 0;bush 1;bush 2", "go 1"), 0, 1);
    }

    // ---- all of them

    private static void nothingChanges() {
        EDGES.sentence("By what is asked nothing changes");
        for (int i = 0; i < QUESTIONS.size(); i++) {
            ToIntFunction<AskedCamp> asked = QUESTIONS.get(i);
            EDGES.leaves("question " + i, rich(), asked, asked.applyAsInt(Edges.made(rich())));
        }
    }

    private static void whateverWasAsked() {
        EDGES.sentence("By what is asked nothing changes (nor what is answered next)");
        String[] camps = {"camp 2 0", "camp 3 8;tent 0 1;tent 4 2;bush 1", "camp 6 14;tent 14 0;tent 3 9;tent 35 3"};
        for (String camp : camps) {
            for (int i = 0; i < QUESTIONS.size(); i++) {
                for (int j = 0; j < QUESTIONS.size(); j++) {
                    AskedCamp x = Edges.camp(camp);
                    QUESTIONS.get(j).applyAsInt(x);
                    int alone = QUESTIONS.get(i).applyAsInt(Edges.camp(camp));
                    EDGES.is("question " + i + " behind " + j + ", " + camp, QUESTIONS.get(i).applyAsInt(x), alone);
                }
            }
        }
    }
}
