import java.util.List;
import java.util.function.Consumer;
import java.util.function.Function;

/**
 * All that can be seen of an object, in looks of a few hundred calls each (an object is used for
 * 512 at most): two objects that answer every look alike are as good as the same.
 */
final class Looks {
    static final List<Function<AskedCamp, String>> ALL =
            List.of(Looks::stands, Looks::goesOn, Looks::undone, Looks::images, Looks::rules, Looks::tape, Looks::notes);

    private Looks() {
    }

    /** Something of everything, so that whatever a call did would show: some 80 calls. */
    static void rich(AskedCamp x) {
        Tape.rule(x, "go 9 - cell");
        Tape.rule(x, "go 99 - been * 9 + cell % 4");
        Tape.rule(x, "go cell if step % 3 < 2; go 40 - cell");
        Tape.camp(x, "camp 4 5;tent 15 5;tent 2 0;tent 2 20;tent 8 7;bush 6;bush 3");
        x.seed(20261118);
        x.note(0, 5);
        // with that all but RULE 0 are so
        x.note(10, 15);
        x.step();
        x.image(0);
        x.force(1);
        x.step();
        x.whistle(12);
        x.pitch(1, 9);
        x.steady(2, 9);
        x.bush(7);
        x.image(2);
        x.step();
        x.step();
        x.bush(0);
        x.steady(0, 1);
        Tape.put(x, "camp 2 1;tent 3 2;bush 2");
    }

    /** The same without a camp. */
    static void campless(AskedCamp x) {
        Tape.rule(x, "go 9 - cell");
        Tape.rule(x, "go 1");
        x.force(1);
        x.seed(77);
        Tape.put(x, "camp 2 1;tent 3 2;bush 2");
    }

    /** A camp with so many rules, the last of them in force. */
    static Consumer<AskedCamp> withRules(int rules) {
        return x -> {
            Tape.camp(x, "camp 3 4;tent 8 3");
            for (int i = 0; i < rules; i++) {
                Tape.rule(x, i % 2 == 0 ? "go 1" : "go cell");
            }
            x.force(rules - 1);
            x.step();
        };
    }

    private static void counts(StringBuilder seen, AskedCamp x) {
        for (int what = 0; what <= 13; what++) {
            seen.append("count ").append(what).append(": ").append(x.count(what)).append('\n');
        }
    }

    private static void tents(StringBuilder seen, AskedCamp x) {
        for (int tent = 0; tent < x.count(1); tent++) {
            for (int what = 0; what < 4; what++) {
                seen.append("tent ").append(tent).append(' ').append(what).append(": ").append(x.tent(tent, what)).append('\n');
            }
        }
    }

    static String stands(AskedCamp x) {
        StringBuilder seen = new StringBuilder();
        counts(seen, x);
        tents(seen, x);
        for (int cell = 0; cell < x.count(0) * x.count(0); cell++) {
            for (int what = 0; what < 3; what++) {
                seen.append("cell ").append(cell).append(' ').append(what).append(": ").append(x.cell(cell, what)).append('\n');
            }
        }
        return seen.toString();
    }

    private static String goesOn(AskedCamp x) {
        StringBuilder seen = new StringBuilder();
        for (int n : new int[] {0, 1, 2, 3, 5, 50, 100}) {
            seen.append("ahead ").append(n).append(": ").append(x.ahead(0, n, 0)).append('\n');
            seen.append("reach ").append(n).append(": ").append(x.reach(n)).append('\n');
        }
        for (int tent = 0; tent < x.count(1); tent++) {
            seen.append("of tent ").append(tent).append(':');
            for (int answer : new int[] {x.ahead(tent, 30, 1), x.ahead(tent, 30, 2), x.first(tent), x.knowsAll(tent),
                x.cut(tent, 0), x.cut(tent, 1), x.hide(tent, 10, 0), x.hide(tent, 10, 1), x.pence(100, tent),
                x.game(tent, 3, 0), x.game(tent, 3, 1)}) {
                seen.append(' ').append(answer);
            }
            seen.append('\n');
        }
        for (int what = 0; what < 2; what++) {
            for (int answer : new int[] {x.most(20, what), x.wake(10, what), x.ring(what), x.winds(3, 20, 50, what)}) {
                seen.append(' ').append(answer);
            }
        }
        return seen.toString();
    }

    private static String undone(AskedCamp x) {
        StringBuilder seen = new StringBuilder();
        for (int i = 0; i < 21; i++) {
            seen.append("undo: ").append(x.undo()).append(" to");
            for (int what : new int[] {4, 5, 6, 8, 9}) {
                seen.append(' ').append(x.count(what));
            }
            for (int tent = 0; tent < 4; tent++) {
                seen.append(' ').append(x.tent(tent, 0)).append(' ').append(x.tent(tent, 1));
            }
            seen.append('\n');
        }
        return seen.toString();
    }

    private static String images(AskedCamp x) {
        StringBuilder seen = new StringBuilder();
        for (int k = 0; k < 4; k++) {
            seen.append("back ").append(k).append(": ").append(x.back(k)).append('\n');
            counts(seen, x);
            tents(seen, x);
            seen.append("ruled: ").append(x.ruled(0)).append(' ').append(x.ruled(1)).append('\n');
        }
        return seen.toString();
    }

    private static String rules(AskedCamp x) {
        StringBuilder seen = new StringBuilder();
        for (int rule = -1; rule < 6; rule++) {
            seen.append("force ").append(rule).append(": ").append(x.force(rule)).append(" goes");
            for (int n = 1; n < 9; n++) {
                seen.append(' ').append(x.ahead(0, n, 0));
            }
            seen.append('\n');
        }
        return seen.toString();
    }

    private static String tape(AskedCamp x) {
        StringBuilder seen = new StringBuilder("camp: ").append(x.camp()).append('\n');
        return seen.append(stands(x)).toString();
    }

    private static String notes(AskedCamp x) {
        StringBuilder seen = new StringBuilder();
        for (int i = 0; i < 11; i++) {
            for (int what = 0; what < 2; what++) {
                seen.append(x.ruled(what)).append(' ').append(x.look(what)).append(' ');
            }
            seen.append("note: ").append(x.note(0, 5)).append('\n');
        }
        return seen.toString();
    }
}
