/** Promises 15 to 26: what is asked of the steps to come and of the ground. */
public final class QuestionsTest {
    private static final Due DUE = new Due();
    /** Cells 0 1 2 / 3 4 5 / 6 7 8; without a rule it goes 3, 4, 5, 2, 5, 8, and stays there. */
    private static final String SMALL = "camp 3 0;tent 8 5;tent 2 3;tent 4 1;bush 1";

    public static void main(String[] args) {
        ahead();
        first();
        ways();
        knowsAll();
        most();
        cut();
        hide();
        wake();
        pence();
        game();
        ring();
        nothingChanges();
        DUE.close();
    }

    private static AskedCamp camp(String text) {
        AskedCamp x = new AskedCamp();
        Tape.camp(x, text);
        return x;
    }

    private static void ahead() {
        AskedCamp x = camp(SMALL);
        int[] where = {0, 3, 4, 5, 2, 5, 8, 8, 8};
        for (int n = 0; n < where.length; n++) {
            DUE.due("15: where in " + n, x.ahead(77, n, 0), where[n]);
        }
        DUE.due("15: how often", x.ahead(0, 6, 1), 1);
        DUE.due("15: how often", x.ahead(0, 100, 1), 95);
        DUE.due("15: knows", x.ahead(1, 3, 2), 2);
        DUE.due("15: knows", x.ahead(1, 4, 2), 6);
        x.step();
        x.step();
        DUE.due("15: as often as ever", x.ahead(2, 0, 1), 1);
        DUE.due("15: without", x.ahead(0, 101, 0) + x.ahead(0, -1, 0) + x.ahead(0, 1, 3) + x.ahead(0, 1, -1), -4);
        DUE.due("15: no tent", x.ahead(3, 1, 1) + x.ahead(-1, 1, 2), -2);
        DUE.due("15: no camp", new AskedCamp().ahead(0, 0, 0), -1);
    }

    private static void first() {
        AskedCamp x = camp(SMALL);
        DUE.due("16: first", x.first(2), 1);
        DUE.due("16: first", x.first(1), 3);
        DUE.due("16: first", x.first(0), 5);
        DUE.due("16: no tent", x.first(3) + x.first(-1) + new AskedCamp().first(0), -3);
        x.step();
        x.step();
        DUE.due("16: in none", x.first(2), -2);
        DUE.due("16: by the number of the step", x.first(0), 5);
        AskedCamp late = camp("camp 2 0;tent 1 0");
        Tape.rule(late, "go 1 if cell = 1 and step = 199");
        Tape.rule(late, "go 1 if cell = 1 and step = 200");
        late.force(0);
        DUE.due("16: the last of 200", late.first(0), 199);
        DUE.due("19: behind the last of 200", camp199().knowsAll(1), 199);
        late.force(1);
        DUE.due("16: beyond 200", late.first(0), -2);
        late.step();
        DUE.due("16: one later", late.first(0), 200);
    }

    /** Two tents of which the second is asked, with all bits, in step 199. */
    private static AskedCamp camp199() {
        AskedCamp x = camp("camp 2 0;tent 1 0;tent 1 0");
        Tape.rule(x, "go 1 if cell = 1 and step = 199");
        x.force(0);
        return x;
    }

    private static void ways() {
        AskedCamp x = camp(SMALL);
        int[] way = {0, -2, 4, 1, 2, 3, 2, 3, 4};
        for (int cell = 0; cell < 9; cell++) {
            DUE.due("17: way(" + cell + ")", x.way(cell), way[cell]);
        }
        DUE.due("17: no cell", x.way(9) + x.way(-1) + new AskedCamp().way(0), -3);
        int[] reach = {1, 2, 4, 6, 8, 8};
        for (int n = 0; n < reach.length; n++) {
            DUE.due("18: reach(" + n + ")", x.reach(n), reach[n]);
        }
        DUE.due("18: the most", x.reach(36), 8);
        DUE.due("18: without", x.reach(37) + x.reach(-1) + new AskedCamp().reach(1), -3);
        x.bush(0);
        DUE.due("17: out of a bush", x.way(4), 2);
        DUE.due("17: its own with a bush", x.way(0), 0);
        DUE.due("18: its own with a bush", x.reach(1), 2);
        x.whistle(3);
        DUE.due("17: not back into a bush", x.way(0), -2);
        AskedCamp wide = camp("camp 6 14");
        int[] grows = {1, 5, 13, 23, 30, 34, 35, 36};
        for (int n = 0; n < grows.length; n++) {
            int within = 0;
            for (int cell = 0; cell < 36; cell++) {
                int apart = Math.abs(cell / 6 - 2) + Math.abs(cell % 6 - 2);
                DUE.due("17: way on open ground", wide.way(cell), apart);
                within += apart <= n ? 1 : 0;
            }
            DUE.due("18: on open ground", wide.reach(n), within);
        }
        DUE.due("18: open ground", wide.reach(1), grows[1]);
    }

    private static void knowsAll() {
        AskedCamp x = camp(SMALL);
        DUE.due("19: first with all", x.knowsAll(0), 5);
        DUE.due("19: never", x.knowsAll(1), -2);
        DUE.due("19: no tent", x.knowsAll(3) + x.knowsAll(-1) + new AskedCamp().knowsAll(0), -9);
        for (int i = 0; i < 6; i++) {
            x.step();
        }
        DUE.due("19: it does now", x.knowsAll(0), 5);
        x.step();
        DUE.due("19: it does now", x.knowsAll(0), 6);
        DUE.due("19: at the begin", camp("camp 2 0;tent 1 0").knowsAll(0), -1);
    }

    private static void most() {
        AskedCamp x = camp(SMALL);
        DUE.due("20: of several the least", x.most(6, 0), 0);
        DUE.due("20: how often", x.most(6, 1), 1);
        DUE.due("20: one alone", x.most(2, 0), 2);
        DUE.due("20: how often", x.most(100, 1), 95);
        DUE.due("20: nobody asked, the least", x.most(1, 0), 0);
        DUE.due("20: nobody asked", x.most(1, 1), 0);
        x.step();
        x.step();
        DUE.due("20: in these alone", x.most(2, 0), 1);
        DUE.due("20: without", x.most(0, 0) + x.most(101, 0) + x.most(1, 2) + x.most(1, -1), -4);
        DUE.due("20: no camp", new AskedCamp().most(1, 0), -1);
        DUE.due("20: no tents", camp("camp 2 0").most(1, 0), -2);
        DUE.due("20: no tents", camp("camp 2 0").most(1, 1), 0);
    }

    private static void cuts(AskedCamp x, int tent, int... want) {
        for (int what = 0; what < 4; what++) {
            DUE.due("21: cut(" + tent + ", " + what + ")", x.cut(tent, what), want[what]);
        }
    }

    private static void cut() {
        AskedCamp x = camp(SMALL);
        cuts(x, 0, 1, 3, -2, -2);
        x.bush(1);
        cuts(x, 0, 2, 1, 3, -2);
        cuts(x, 2, 2, 1, 3, -2);
        x.pitch(0, 0);
        cuts(x, 0, -2, -2, -2, -2);
        x.pitch(0, 1);
        cuts(x, 0, -2, -2, -2, -2);
        x.bush(1);
        cuts(x, 0, 0, -2, -2, -2);
        DUE.due("21: without", x.cut(3, 0) + x.cut(-1, 0) + x.cut(0, 4) + x.cut(0, -1), -4);
        AskedCamp wide = camp("camp 6 14;tent 28 0;tent 29 0;tent 35 0;tent 16 0;tent 12 0;tent 0 0;bush 1");
        cuts(wide, 0, -2, -2, -2, -2);
        cuts(wide, 1, 3, 23, 28, 33);
        cuts(wide, 2, 2, 29, 34, -2);
        cuts(wide, 3, -2, -2, -2, -2);
        cuts(wide, 4, 3, 6, 13, 18);
        cuts(wide, 5, 1, 6, -2, -2);
    }

    private static void hide() {
        AskedCamp x = camp(SMALL);
        DUE.due("22: on a bush", x.hide(0, 6, 0), 1);
        DUE.due("22: never", x.hide(0, 6, 1), 0);
        x.bush(1);
        DUE.due("22: out of reach so fast", x.hide(2, 1, 0), 2);
        DUE.due("22: never", x.hide(2, 1, 1), 0);
        DUE.due("22: without", x.hide(0, 0, 0) + x.hide(0, 31, 0) + x.hide(3, 1, 0) + x.hide(0, 1, 2), -4);
        AskedCamp square = camp("camp 2 0;tent 0 0");
        DUE.due("22: the last cell gives most time", square.hide(0, 10, 0), 3);
        DUE.due("22: asked from the second step on", square.hide(0, 10, 1), 9);
        Tape.rule(square, "go 1");
        square.force(0);
        DUE.due("22: where it never goes", square.hide(0, 30, 0), 2);
        DUE.due("22: never", square.hide(0, 30, 1), 0);
        square.bush(2);
        square.bush(3);
        DUE.due("22: a bush where it never goes", square.hide(0, 30, 0), 2);
        AskedCamp asked = camp("camp 2 0;tent 0 0");
        asked.step();
        DUE.due("22: in these alone", asked.hide(0, 5, 1), 0);
        DUE.due("22: where it does not stay", asked.hide(0, 5, 0), 1);
    }

    private static void wake() {
        AskedCamp x = camp("camp 6 2;tent 0 1;tent 5 1;tent 4 1");
        DUE.due("23: who", x.wake(3, 0), 0);
        DUE.due("23: how many", x.wake(3, 1), 2);
        DUE.due("23: none is as good", x.wake(30, 0), -1);
        DUE.due("23: how many", x.wake(30, 1), 3);
        DUE.due("23: nobody asked, none", x.wake(1, 0), -1);
        DUE.due("23: nobody asked", x.wake(1, 1), 0);
        DUE.due("23: without", x.wake(0, 0) + x.wake(31, 0) + x.wake(1, 2) + x.wake(1, -1), -8);
        DUE.due("23: no camp", new AskedCamp().wake(1, 0), -2);
        DUE.due("23: no tents", camp("camp 2 0").wake(1, 0), -1);
        DUE.due("23: no tents", camp("camp 2 0").wake(1, 1), 0);
        AskedCamp two = camp("camp 2 0;tent 1 1;tent 3 1;tent 2 1");
        DUE.due("23: the least of several", two.wake(1, 0), -1);
        Tape.rule(two, "go 1 if asked = 1");
        two.force(0);
        DUE.due("23: the least that helps", two.wake(1, 0), 1);
        DUE.due("23: it is asked then", two.wake(1, 1), 1);
    }

    private static void pence() {
        AskedCamp x = camp(SMALL);
        DUE.due("24: none was asked", x.pence(10, 0), 0);
        for (int i = 0; i < 7; i++) {
            x.step();
        }
        int[] ten = {5, 3, 2};
        int[] eleven = {5, 3, 3};
        for (int tent = 0; tent < 3; tent++) {
            DUE.due("24: ten", x.pence(10, tent), ten[tent]);
            DUE.due("24: eleven", x.pence(11, tent), eleven[tent]);
            DUE.due("24: nothing", x.pence(0, tent), 0);
        }
        DUE.due("24: one", x.pence(1, 0), 1);
        DUE.due("24: all", x.pence(9999, 0) + x.pence(9999, 1) + x.pence(9999, 2), 9999);
        DUE.due("24: without", x.pence(-1, 0) + x.pence(10000, 0) + x.pence(1, 3) + x.pence(1, -1), -4);
    }

    private static void games(AskedCamp x, int tent, int n, int gap, int cell) {
        DUE.due("25: game(" + tent + ", " + n + ", 0)", x.game(tent, n, 0), gap);
        DUE.due("25: game(" + tent + ", " + n + ", 1)", x.game(tent, n, 1), cell);
    }

    private static void game() {
        AskedCamp x = camp("camp 3 0;tent 8 0;tent 4 0;tent 0 0");
        games(x, 0, 1, 3, 1);
        games(x, 0, 2, 3, 1);
        games(x, 0, 3, 2, 1);
        games(x, 0, 4, 2, 1);
        games(x, 1, 1, 1, 1);
        games(x, 1, 2, 2, 1);
        games(x, 2, 1, 0, 0);
        games(x, 2, 2, 1, 0);
        x.bush(1);
        games(x, 0, 1, 3, 3);
        x.bush(3);
        games(x, 0, 3, 4, 0);
        x.bush(5);
        x.bush(7);
        games(x, 1, 2, 3, 0);
        DUE.due("25: without", x.game(0, 0, 0) + x.game(0, 5, 0) + x.game(3, 1, 0) + x.game(0, 1, 2), -4);
        DUE.due("25: no camp", new AskedCamp().game(0, 1, 0), -1);
    }

    private static void ring() {
        AskedCamp x = camp(SMALL);
        DUE.due("26: the step", x.ring(0), 6);
        DUE.due("26: how much later", x.ring(1), 1);
        Tape.rule(x, "go 9 - cell");
        x.force(0);
        x.step();
        DUE.due("26: from this one on", x.ring(0), 1);
        DUE.due("26: there and back", x.ring(1), 2);
        DUE.due("26: others", x.ring(2) + x.ring(-1) + new AskedCamp().ring(0), -3);
        rings("go 99 - been * 9 + column", 0, 36);
        rings("go 100 - been if step < 57", 57, 1);
        ringsAmongTheLast();
    }

    /** It goes on, never twice alike, until some STEP, and stays where it is from then on. */
    private static void ringsAmongTheLast() {
        String on = "go 1 + step * step / 3 * cell % 11";
        rings(on, -2, -2);
        rings(on + " if step < 54", 54, 1);
        rings(on + " if step < 59", 59, 1);
        rings(on + " if step < 60", -2, -2);
        rings(on + " if step < 59 or step > 63", -2, -2);
        rings(on + " if step < 59 or step > 64", 59, 1);
        AskedCamp x = camp("camp 6 0");
        Tape.rule(x, on + " if step < 62");
        Tape.rule(x, on + " if step < 63");
        for (int i = 0; i < 3; i++) {
            x.force(0);
            x.step();
        }
        DUE.due("26: the last of 60 from now", x.ring(0), 62);
        DUE.due("26: how much later", x.ring(1), 1);
        x.force(1);
        DUE.due("26: beyond the 60 from now", x.ring(0), -2);
        // at the begin of STEP 58 it is on CELL 2: to and fro from there, and from STEP 59 alone
        rings(on + " if step < 58; go 1 if cell = 2 or cell = 3", 58, 2);
        rings(on + " if step < 58; go 1 if cell < 2", -2, -2);
    }

    private static void rings(String rule, int step, int later) {
        AskedCamp x = camp("camp 6 0");
        Tape.rule(x, rule);
        x.force(0);
        DUE.due("26: the step, " + rule, x.ring(0), step);
        DUE.due("26: how much later, " + rule, x.ring(1), later);
    }

    private static void nothingChanges() {
        AskedCamp x = camp(SMALL);
        x.step();
        x.ahead(0, 50, 0);
        x.first(0);
        x.way(3);
        x.reach(3);
        x.knowsAll(0);
        x.most(50, 0);
        x.cut(0, 0);
        x.hide(0, 20, 0);
        x.wake(20, 0);
        x.pence(5, 0);
        x.game(0, 4, 0);
        x.ring(0);
        x.ruled(0);
        x.look(0);
        x.winds(5, 20, 50, 0);
        int[] want = {3, 3, 0, -1, 1, 3, 0, 0, 0, 1, 0, 1, 0, 0};
        for (int what = 0; what < want.length; what++) {
            DUE.due("III: count(" + what + ")", x.count(what), want[what]);
        }
        DUE.due("III: nerve", x.tent(2, 1), 1);
        DUE.due("III: been", x.cell(3, 1), 1);
        DUE.due("III: cell", x.tent(0, 0), 8);
    }
}
