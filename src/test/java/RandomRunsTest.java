import java.util.Random;

/** Runs of drawn calls, each answered by AskedCamp and by PlainCamp: the answers must be the same. */
public final class RandomRunsTest {
    private static final String[] WORDS = {"cell", "row", "column", "tents", "nerve", "been", "near", "bushes",
        "bits", "asked", "step"};
    private final Random random;
    private final AskedCamp asked = new AskedCamp();
    private final PlainCamp plain = new PlainCamp();
    private final StringBuilder log = new StringBuilder();
    private int side = 2;
    private boolean right = true;

    private RandomRunsTest(long seed) {
        random = new Random(seed);
    }

    public static void main(String[] args) {
        int runs = args.length > 0 ? Integer.parseInt(args[0]) : 400;
        int wrong = 0;
        for (int seed = 1; seed <= runs && wrong < 5; seed++) {
            RandomRunsTest run = new RandomRunsTest(seed);
            if (!run.go()) {
                wrong++;
                System.out.println("run " + seed + ":\n" + run.log);
            }
        }
        System.out.println(wrong == 0 ? "all answers are as due" : wrong + " runs are not as due");
        if (wrong != 0) {
            System.exit(1);
        }
    }

    private boolean go() {
        int calls = 0;
        if (random.nextInt(8) != 0) {
            calls += tell(camp(), true);
        }
        int rules = random.nextInt(4);
        for (int i = 0; i < rules; i++) {
            calls += tell(rule(), false);
        }
        while (calls < 500 && right) {
            calls += any();
        }
        return right;
    }

    private int below(int n) {
        return random.nextInt(n);
    }

    /** Mostly from low to high, now and then a little beyond, or far away. */
    private int about(int low, int high) {
        int kind = below(40);
        if (kind == 0) {
            return random.nextInt();
        }
        if (kind < 4) {
            return low - 1 - below(2);
        }
        if (kind < 7) {
            return high + 1 + below(2);
        }
        return low + below(high - low + 1);
    }

    private int aCell() {
        return about(0, side * side - 1);
    }

    private int aTent() {
        return about(0, 5);
    }

    // ---- texts

    private String camp() {
        side = 2 + below(5);
        int cells = side * side;
        StringBuilder text = new StringBuilder("camp " + side + " " + below(cells));
        int tents = below(7);
        int bushes = below(cells / 3 + 1);
        while (tents > 0 || bushes > 0) {
            if (below(tents + bushes) < tents) {
                tents--;
                text.append(blanks()).append(";tent").append(blanks()).append(below(cells)).append(' ').append(below(21));
            } else {
                bushes--;
                text.append("; bush").append(blanks()).append(below(cells));
            }
        }
        return spoilt(text.toString());
    }

    private String blanks() {
        return below(5) == 0 ? "  " : "";
    }

    private String rule() {
        StringBuilder text = new StringBuilder();
        int clauses = 1 + below(4);
        for (int i = 0; i < clauses; i++) {
            if (i > 0) {
                text.append(below(3) == 0 ? " ; " : ";");
            }
            text.append("go ").append(sum(3));
            if (below(4) != 0) {
                text.append(" if ").append(test(below(4)));
            }
        }
        return spoilt(text.toString());
    }

    private String test(int depth) {
        int kind = depth <= 0 ? 9 : below(6);
        if (kind == 0) {
            return "not " + test(depth - 1);
        }
        if (kind == 1) {
            return "[" + test(depth - 1) + blanks() + "]";
        }
        if (kind == 2) {
            return test(depth - 1) + " or " + test(depth - 1);
        }
        if (kind == 3) {
            return test(depth - 1) + " and " + test(depth - 1);
        }
        return sum(2) + " " + new String[] {"<", "<=", "=", ">=", ">"}[below(5)] + blanks() + sum(2);
    }

    private String sum(int most) {
        StringBuilder text = new StringBuilder(value());
        for (int i = below(most + 1); i > 0; i--) {
            text.append(blanks()).append("+-*/%".charAt(below(5))).append(blanks()).append(value());
        }
        return text.toString();
    }

    private String value() {
        if (below(3) > 0) {
            return WORDS[below(WORDS.length)];
        }
        return String.valueOf(below(4) > 0 ? below(8) : below(100000));
    }

    /** Now and then a text with a fault, or with what may be none. */
    private String spoilt(String text) {
        if (below(3) != 0) {
            return text;
        }
        int at = below(text.length() + 1);
        String some = new String[] {"", " ", ";", "x", "not ", "[", "]", "9", "000000", "<", "=", "go 1;", ";bush 0",
            ";camp 2 0", "tent ", "\u00e9", "\u0000", " and ", " or ", "if"}[below(20)];
        if (below(2) == 0) {
            return text.substring(0, at) + some + text.substring(at);
        }
        return text.substring(0, at) + some + text.substring(Math.min(text.length(), at + 1 + below(3)));
    }

    private int tell(String text, boolean camp) {
        String told = text.length() > 400 ? text.substring(0, 400) : text;
        int calls = 0;
        for (int i = 0; i < told.length(); i += 20) {
            int[] f = Tape.five(told, i);
            due("feed", asked.feed(f[0], f[1], f[2], f[3], f[4]), plain.feed(f));
            calls++;
        }
        if (below(30) != 0) {
            due("end", asked.end(told.length()), plain.end(told.length()));
        }
        log.append(told).append('\n');
        if (camp) {
            due("camp()", asked.camp(), plain.camp());
        } else {
            due("rule()", asked.rule(), plain.rule());
        }
        if (plain.now.side > 0) {
            side = plain.now.side;
        }
        return calls + 2;
    }

    private void due(String call, int got, int want) {
        log.append(call).append(" = ").append(got).append('\n');
        if (got != want) {
            right = false;
            log.append("  due is ").append(want).append('\n');
        }
    }

    // ---- calls

    private int any() {
        int kind = below(120);
        if (kind < 2) {
            return tell(camp(), true);
        }
        if (kind < 4) {
            return tell(rule(), false);
        }
        if (kind < 60) {
            anAct(below(12));
        } else if (kind < 75) {
            aState(below(7));
        } else {
            aQuestion(below(18));
        }
        return 1;
    }

    private void anAct(int kind) {
        int a;
        int b;
        switch (kind) {
            case 0: a = about(-1, 5); due("force " + a, asked.force(a), plain.force(a)); break;
            case 1: a = aCell(); due("whistle " + a, asked.whistle(a), plain.whistle(a)); break;
            case 2: a = aTent(); b = aCell(); due("pitch " + a + " " + b, asked.pitch(a, b), plain.pitch(a, b)); break;
            case 3: a = aTent(); b = about(1, 9); due("steady " + a + " " + b, asked.steady(a, b), plain.steady(a, b)); break;
            case 4: a = aCell(); due("bush " + a, asked.bush(a), plain.bush(a)); break;
            case 5: due("undo", asked.undo(), plain.undo()); break;
            case 6: a = about(0, 60); b = below(2) == 0 ? noted(a) : aCell();
                due("note " + a + " " + b, asked.note(a, b), plain.note(a, b)); break;
            case 7: a = about(0, 2147483646); due("seed " + a, asked.seed(a), plain.seed(a)); break;
            case 8: a = about(0, 3); due("image " + a, asked.image(a), plain.image(a)); break;
            case 9: a = about(0, 3); if (below(3) == 0) { due("back " + a, asked.back(a), plain.back(a)); } break;
            default: due("step", asked.step(), plain.step()); break;
        }
    }

    /** Where the question was by some rule, so that notes are often so. */
    private int noted(int n) {
        if (n < 0 || n > 60 || plain.told.side == 0) {
            return 0;
        }
        return plain.trace(plain.told, below(plain.rules.size() + 1) - 1, 60)[n];
    }

    private void aState(int kind) {
        int a;
        int b;
        switch (kind) {
            case 0: case 1: a = aTent(); b = about(0, 3); due("tent " + a + " " + b, asked.tent(a, b), plain.tent(a, b)); break;
            case 2: case 3: a = aCell(); b = about(0, 2); due("cell " + a + " " + b, asked.cell(a, b), plain.cell(a, b)); break;
            case 4: a = about(0, 20); due("end " + a, asked.end(a), plain.end(a)); break;
            default: a = about(0, 13); due("count " + a, asked.count(a), plain.count(a)); break;
        }
    }

    private void aQuestion(int kind) {
        int a;
        int b;
        int c;
        int d;
        switch (kind) {
            case 0: case 1: a = aTent(); b = about(0, 100); c = about(0, 2);
                due("ahead " + a + " " + b + " " + c, asked.ahead(a, b, c), plain.ahead(a, b, c)); break;
            case 2: a = aTent(); due("first " + a, asked.first(a), plain.first(a)); break;
            case 3: a = aCell(); due("way " + a, asked.way(a), plain.way(a)); break;
            case 4: a = about(0, 36); due("reach " + a, asked.reach(a), plain.reach(a)); break;
            case 5: a = aTent(); due("knowsAll " + a, asked.knowsAll(a), plain.knowsAll(a)); break;
            case 6: a = about(1, 100); b = about(0, 1); due("most " + a + " " + b, asked.most(a, b), plain.most(a, b)); break;
            case 7: a = aTent(); b = about(0, 3); if (side < 5 || below(4) == 0) { due("cut " + a + " " + b, asked.cut(a, b), plain.cut(a, b)); } break;
            case 8: a = aTent(); b = about(1, 30); c = about(0, 1);
                due("hide " + a + " " + b + " " + c, asked.hide(a, b, c), plain.hide(a, b, c)); break;
            case 9: case 10: a = about(1, 30); b = about(0, 1); due("wake " + a + " " + b, asked.wake(a, b), plain.wake(a, b)); break;
            case 11: a = about(0, 9999); b = aTent(); due("pence " + a + " " + b, asked.pence(a, b), plain.pence(a, b)); break;
            case 12: a = aTent(); b = about(1, 4); c = about(0, 1);
                due("game " + a + " " + b + " " + c, asked.game(a, b, c), plain.game(a, b, c)); break;
            case 13: a = about(0, 1); due("ring " + a, asked.ring(a), plain.ring(a)); break;
            case 14: a = about(0, 1); due("ruled " + a, asked.ruled(a), plain.ruled(a)); break;
            case 15: a = about(0, 1); due("look " + a, asked.look(a), plain.look(a)); break;
            default: a = about(1, 10); b = about(1, 60); c = about(0, 100); d = about(0, 1);
                due("winds " + a + " " + b + " " + c + " " + d, asked.winds(a, b, c, d), plain.winds(a, b, c, d)); break;
        }
    }
}
