import java.util.ArrayDeque;
import java.util.ArrayList;
import java.util.Arrays;
import java.util.List;
import java.util.TreeSet;

/**
 * The document once more, written as plainly as can be and with no thought of speed or room: a
 * second opinion that RandomRunsTest holds against AskedCamp.
 */
final class PlainCamp {
    static final int NONE = -1;

    // ---- texts

    static final class Fault extends RuntimeException {
        private static final long serialVersionUID = 1L;

        final int code;

        Fault(int place, int kind) {
            super(null, null, false, false);
            code = 1 + 8 * place + kind;
        }
    }

    interface Sum {
        long of(State s, int cell);
    }

    interface Test {
        boolean of(State s, int cell);
    }

    record Clause(Sum sum, Test test) {
    }

    static final class Text {
        final String all;
        int at;
        int counted;

        Text(String all) {
            this.all = all;
        }

        void blanks() {
            while (at < all.length() && all.charAt(at) == ' ') {
                at++;
            }
        }

        int sign() {
            blanks();
            return at < all.length() ? all.charAt(at) : -1;
        }

        String word() {
            blanks();
            int to = at;
            while (to < all.length() && all.charAt(to) >= 'a' && all.charAt(to) <= 'z') {
                to++;
            }
            return all.substring(at, to);
        }

        int number(int low, int high) {
            blanks();
            int to = at;
            while (to < all.length() && all.charAt(to) >= '0' && all.charAt(to) <= '9') {
                to++;
            }
            if (to == at) {
                throw new Fault(at, 0);
            }
            if (to - at > 5) {
                throw new Fault(at, 1);
            }
            int value = Integer.parseInt(all.substring(at, to));
            if (value < low || value > high) {
                throw new Fault(at, 1);
            }
            at = to;
            return value;
        }

        List<Clause> rule() {
            List<Clause> clauses = new ArrayList<>();
            while (true) {
                if (!word().equals("go")) {
                    throw new Fault(at, 0);
                }
                if (clauses.size() == 12) {
                    throw new Fault(at, 4);
                }
                at += 2;
                Sum sum = sum();
                Test test = (s, c) -> true;
                if (word().equals("if")) {
                    at += 2;
                    test = test(0);
                }
                clauses.add(new Clause(sum, test));
                if (sign() == -1) {
                    return clauses;
                }
                if (sign() != ';') {
                    throw new Fault(at, 0);
                }
                at++;
            }
        }

        Test test(int depth) {
            Test left = part(depth);
            while (word().equals("or")) {
                at += 2;
                Test a = left;
                Test b = part(depth);
                left = (s, c) -> a.of(s, c) || b.of(s, c);
            }
            return left;
        }

        Test part(int depth) {
            Test left = fact(depth);
            while (word().equals("and")) {
                at += 3;
                Test a = left;
                Test b = fact(depth);
                left = (s, c) -> a.of(s, c) && b.of(s, c);
            }
            return left;
        }

        Test fact(int depth) {
            if (word().equals("not")) {
                if (depth == 10) {
                    throw new Fault(at, 2);
                }
                at += 3;
                Test inner = fact(depth + 1);
                return (s, c) -> !inner.of(s, c);
            }
            if (sign() == '[') {
                if (depth == 10) {
                    throw new Fault(at, 2);
                }
                at++;
                Test inner = test(depth + 1);
                if (sign() != ']') {
                    throw new Fault(at, 0);
                }
                at++;
                return inner;
            }
            Sum left = sum();
            sign();
            String sign = "";
            for (String one : new String[] {"<=", ">=", "<", ">", "="}) {
                if (sign.isEmpty() && all.startsWith(one, at)) {
                    sign = one;
                }
            }
            if (sign.isEmpty()) {
                throw new Fault(at, 0);
            }
            if (++counted > 60) {
                throw new Fault(at, 3);
            }
            at += sign.length();
            Sum right = sum();
            switch (sign) {
                case "<=": return (s, c) -> left.of(s, c) <= right.of(s, c);
                case ">=": return (s, c) -> left.of(s, c) >= right.of(s, c);
                case "<": return (s, c) -> left.of(s, c) < right.of(s, c);
                case ">": return (s, c) -> left.of(s, c) > right.of(s, c);
                default: return (s, c) -> left.of(s, c) == right.of(s, c);
            }
        }

        Sum sum() {
            Sum left = term();
            while (sign() == '+' || sign() == '-') {
                boolean plus = sign() == '+';
                at++;
                Sum a = left;
                Sum b = term();
                left = plus ? (s, c) -> a.of(s, c) + b.of(s, c) : (s, c) -> a.of(s, c) - b.of(s, c);
            }
            return left;
        }

        Sum term() {
            Sum left = value();
            while (sign() == '*' || sign() == '/' || sign() == '%') {
                int sign = sign();
                at++;
                Sum a = left;
                Sum b = value();
                if (sign == '*') {
                    left = (s, c) -> a.of(s, c) * b.of(s, c);
                } else if (sign == '/') {
                    left = (s, c) -> b.of(s, c) == 0 ? 0 : a.of(s, c) / b.of(s, c);
                } else {
                    left = (s, c) -> b.of(s, c) == 0 ? 0 : a.of(s, c) % b.of(s, c);
                }
            }
            return left;
        }

        Sum value() {
            String word = word();
            int first = at;
            Sum sum;
            if (word.isEmpty()) {
                long number = number(0, 99999);
                sum = (s, c) -> number;
            } else {
                if (!Arrays.asList("cell", "row", "column", "tents", "nerve", "been", "near", "bushes",
                        "bits", "asked", "step").contains(word)) {
                    throw new Fault(at, 0);
                }
                at += word.length();
                sum = (s, c) -> s.word(word, c);
            }
            if (++counted > 60) {
                throw new Fault(first, 3);
            }
            return sum;
        }

        State camp() {
            State s = new State();
            int clauses = 0;
            while (true) {
                String word = word();
                if (!word.equals("camp") && !word.equals("tent") && !word.equals("bush")) {
                    throw new Fault(at, 0);
                }
                clauses++;
                if (clauses > 40 || word.equals("camp") != (clauses == 1)) {
                    throw new Fault(at, 4);
                }
                if (word.equals("tent") && s.tents.size() == 6) {
                    throw new Fault(at, 4);
                }
                at += 4;
                if (word.equals("camp")) {
                    s.side = number(2, 6);
                    s.question = number(0, s.side * s.side - 1);
                    s.been = new int[s.side * s.side];
                } else if (word.equals("tent")) {
                    Tent t = new Tent();
                    t.cell = number(0, s.side * s.side - 1);
                    t.nerve = number(0, 20);
                    t.knows = 1 << s.tents.size();
                    s.tents.add(t);
                } else {
                    s.bushes.add(number(0, s.side * s.side - 1));
                }
                if (sign() == -1) {
                    return s;
                }
                if (sign() != ';') {
                    throw new Fault(at, 0);
                }
                at++;
            }
        }
    }

    // ---- the camp

    static final class Tent {
        int cell;
        int nerve;
        int asked;
        int knows;
    }

    static final class State {
        int side;
        int question;
        int step;
        int bits;
        List<Tent> tents = new ArrayList<>();
        TreeSet<Integer> bushes = new TreeSet<>();
        int[] been = new int[0];

        State copy() {
            State s = new State();
            s.side = side;
            s.question = question;
            s.step = step;
            s.bits = bits;
            for (Tent t : tents) {
                Tent u = new Tent();
                u.cell = t.cell;
                u.nerve = t.nerve;
                u.asked = t.asked;
                u.knows = t.knows;
                s.tents.add(u);
            }
            s.bushes.addAll(bushes);
            s.been = been.clone();
            return s;
        }

        int cells() {
            return side * side;
        }

        /** The cells beside one, upwards. */
        List<Integer> beside(int cell) {
            List<Integer> found = new ArrayList<>();
            for (int other = 0; other < cells(); other++) {
                if (apart(cell, other) == 1) {
                    found.add(other);
                }
            }
            return found;
        }

        int apart(int a, int b) {
            return Math.abs(a / side - b / side) + Math.abs(a % side - b % side);
        }

        /** How far each cell is from one, -1 where no way goes. */
        int[] far(int from) {
            int[] far = new int[cells()];
            Arrays.fill(far, -1);
            far[from] = 0;
            ArrayDeque<Integer> queue = new ArrayDeque<>();
            queue.add(from);
            while (!queue.isEmpty()) {
                int cell = queue.poll();
                for (int next : beside(cell)) {
                    if (far[next] < 0 && !bushes.contains(next)) {
                        far[next] = far[cell] + 1;
                        queue.add(next);
                    }
                }
            }
            return far;
        }

        int asked() {
            return tents.stream().mapToInt(t -> t.asked).sum();
        }

        long word(String word, int c) {
            switch (word) {
                case "cell": return c;
                case "row": return c / side;
                case "column": return c % side;
                case "tents": return tents.stream().filter(t -> t.cell == c).count();
                case "nerve": return tents.stream().filter(t -> t.cell == c).mapToInt(t -> t.nerve).min().orElse(99);
                case "been": return been[c];
                case "near": {
                    int[] far = far(c);
                    return tents.stream().filter(t -> t.asked == 0 && far[t.cell] >= 0)
                            .mapToInt(t -> far[t.cell]).min().orElse(99);
                }
                case "bushes": return beside(c).stream().filter(bushes::contains).count();
                case "bits": return Integer.bitCount(bits);
                case "asked": return asked();
                default: return step;
            }
        }

        void go(List<Clause> rule) {
            question = rule == null ? unruled() : ruled(rule);
            been[question]++;
            for (Tent t : tents) {
                if (t.cell == question) {
                    t.asked++;
                    t.nerve = Math.max(0, t.nerve - 1);
                    bits |= t.knows;
                    t.knows |= bits;
                }
            }
            step++;
        }

        int ruled(List<Clause> rule) {
            int best = question;
            long most = 0;
            for (int c : beside(question)) {
                if (bushes.contains(c)) {
                    continue;
                }
                long sum = 0;
                for (Clause clause : rule) {
                    if (clause.test().of(this, c)) {
                        sum = clause.sum().of(this, c);
                        break;
                    }
                }
                if (sum > most) {
                    most = sum;
                    best = c;
                }
            }
            return best;
        }

        int unruled() {
            int[] far = far(question);
            int nearest = tents.stream().filter(t -> t.asked == 0 && far[t.cell] >= 0)
                    .mapToInt(t -> far[t.cell]).min().orElse(0);
            if (nearest == 0) {
                return question;
            }
            int best = 99;
            for (Tent t : tents) {
                if (t.asked == 0 && far[t.cell] == nearest) {
                    best = Math.min(best, firstOfWay(t.cell));
                }
            }
            return best;
        }

        /** The least first cell of a way to a cell that is another one and has a way. */
        int firstOfWay(int cell) {
            int whole = far(question)[cell];
            for (int c : beside(question)) {
                if (!bushes.contains(c) && far(c)[cell] == whole - 1) {
                    return c;
                }
            }
            throw new IllegalStateException();
        }
    }

    // ---- the object

    StringBuilder tape = new StringBuilder();
    List<List<Clause>> rules = new ArrayList<>();
    State told = new State();
    State now = new State();
    int inForce = NONE;
    long x = 0;
    List<int[]> notes = new ArrayList<>();
    ArrayDeque<State> undo = new ArrayDeque<>();
    Object[][] images = new Object[4][];

    boolean camped() {
        return now.side > 0;
    }

    boolean noTent(int t) {
        return t < 0 || t >= now.tents.size();
    }

    boolean noCell(int c) {
        return c < 0 || c >= now.cells();
    }

    List<Clause> ruleOf(int r) {
        return r == NONE ? null : rules.get(r);
    }

    void act() {
        undo.addLast(now.copy());
        if (undo.size() > 20) {
            undo.removeFirst();
        }
    }

    int feed(int... five) {
        if (tape.length() + 20 > 400) {
            return NONE;
        }
        for (int n : five) {
            tape.append((char) (n >>> 24)).append((char) (n >>> 16 & 255));
            tape.append((char) (n >>> 8 & 255)).append((char) (n & 255));
        }
        return tape.length();
    }

    int end(int n) {
        if (n < 0 || n > tape.length()) {
            return NONE;
        }
        tape.setLength(n);
        return n;
    }

    int camp() {
        String text = tape.toString();
        tape.setLength(0);
        try {
            told = new Text(text).camp();
        } catch (Fault f) {
            return -2 - f.code;
        }
        now = told.copy();
        notes.clear();
        undo.clear();
        return now.tents.size();
    }

    int rule() {
        if (rules.size() == 6) {
            return NONE;
        }
        String text = tape.toString();
        tape.setLength(0);
        try {
            rules.add(new Text(text).rule());
        } catch (Fault f) {
            return -2 - f.code;
        }
        return rules.size() - 1;
    }

    int force(int rule) {
        if (rule < NONE || rule >= rules.size()) {
            return -2;
        }
        int was = inForce;
        inForce = rule;
        return was;
    }

    int tent(int t, int what) {
        if (noTent(t) || what < 0 || what > 3) {
            return NONE;
        }
        Tent tent = now.tents.get(t);
        return new int[] {tent.cell, tent.nerve, tent.asked, tent.knows}[what];
    }

    int cell(int c, int what) {
        if (noCell(c) || what < 0 || what > 2) {
            return NONE;
        }
        int on = 0;
        for (int t = 0; t < now.tents.size(); t++) {
            on |= now.tents.get(t).cell == c ? 1 << t : 0;
        }
        return new int[] {now.bushes.contains(c) ? 1 : 0, now.been[c], on}[what];
    }

    int step() {
        if (!camped() || now.step == 999) {
            return NONE;
        }
        act();
        now.go(ruleOf(inForce));
        return now.question;
    }

    int whistle(int c) {
        if (noCell(c) || c == now.question || now.far(now.question)[c] < 0) {
            return NONE;
        }
        act();
        return now.question = now.firstOfWay(c);
    }

    int pitch(int t, int c) {
        if (noTent(t) || noCell(c) || now.tents.get(t).cell == c) {
            return NONE;
        }
        act();
        int was = now.tents.get(t).cell;
        now.tents.get(t).cell = c;
        return was;
    }

    int steady(int t, int much) {
        if (noTent(t) || much < 1 || much > 9) {
            return NONE;
        }
        act();
        return now.tents.get(t).nerve = Math.min(99, now.tents.get(t).nerve + much);
    }

    int bush(int c) {
        if (noCell(c)) {
            return NONE;
        }
        act();
        if (now.bushes.remove(c)) {
            return 0;
        }
        now.bushes.add(c);
        return 1;
    }

    int undo() {
        if (undo.isEmpty()) {
            return NONE;
        }
        now = undo.removeLast();
        return undo.size();
    }

    State later(State from, int rule, int n) {
        State s = from.copy();
        for (int i = 0; i < n; i++) {
            s.go(ruleOf(rule));
        }
        return s;
    }

    int ahead(int t, int n, int what) {
        if (!camped() || n < 0 || n > 100 || what < 0 || what > 2 || what > 0 && noTent(t)) {
            return NONE;
        }
        State s = later(now, inForce, n);
        return what == 0 ? s.question : what == 1 ? s.tents.get(t).asked : s.tents.get(t).knows;
    }

    int first(int t) {
        if (noTent(t)) {
            return NONE;
        }
        State s = now.copy();
        for (int i = 0; i < 200; i++) {
            int was = s.tents.get(t).asked;
            s.go(ruleOf(inForce));
            if (s.tents.get(t).asked != was) {
                return now.step + i;
            }
        }
        return -2;
    }

    int way(int c) {
        if (noCell(c)) {
            return NONE;
        }
        int far = now.far(now.question)[c];
        return far < 0 ? -2 : far;
    }

    int reach(int n) {
        if (!camped() || n < 0 || n > 36) {
            return NONE;
        }
        return (int) Arrays.stream(now.far(now.question)).filter(f -> f >= 0 && f <= n).count();
    }

    int knowsAll(int t) {
        if (noTent(t)) {
            return -3;
        }
        int all = (1 << now.tents.size()) - 1;
        if (now.tents.get(t).knows == all) {
            return now.step - 1;
        }
        State s = now.copy();
        for (int i = 0; i < 200; i++) {
            s.go(ruleOf(inForce));
            if (s.tents.get(t).knows == all) {
                return s.step - 1;
            }
        }
        return -2;
    }

    int most(int n, int what) {
        if (!camped() || n < 1 || n > 100 || what < 0 || what > 1) {
            return NONE;
        }
        if (now.tents.isEmpty()) {
            return what == 0 ? -2 : 0;
        }
        State s = later(now, inForce, n);
        int best = 0;
        for (int t = 1; t < now.tents.size(); t++) {
            if (more(s, t) > more(s, best)) {
                best = t;
            }
        }
        return what == 0 ? best : more(s, best);
    }

    int more(State s, int t) {
        return s.tents.get(t).asked - now.tents.get(t).asked;
    }

    int cut(int t, int what) {
        if (noTent(t) || what < 0 || what > 3) {
            return NONE;
        }
        int target = now.tents.get(t).cell;
        for (int size = 0; size <= 3; size++) {
            int[] set = firstCut(now, target, new int[size], 0, 0);
            if (set != null) {
                return what == 0 ? size : what <= size ? set[what - 1] : -2;
            }
        }
        return -2;
    }

    int[] firstCut(State s, int target, int[] set, int had, int from) {
        if (had == set.length) {
            return s.far(s.question)[target] < 0 ? set.clone() : null;
        }
        for (int c = from; c < s.cells(); c++) {
            if (s.bushes.contains(c) || c == s.question || c == target) {
                continue;
            }
            set[had] = c;
            s.bushes.add(c);
            int[] found = firstCut(s, target, set, had + 1, c + 1);
            s.bushes.remove(c);
            if (found != null) {
                return found;
            }
        }
        return null;
    }

    int hide(int t, int n, int what) {
        if (noTent(t) || n < 1 || n > 30 || what < 0 || what > 1) {
            return NONE;
        }
        int best = 0;
        int least = 9999;
        for (int c = 0; c < now.cells(); c++) {
            State s = now.copy();
            s.tents.get(t).cell = c;
            int times = more(later(s, inForce, n), t);
            if (times < least) {
                least = times;
                best = c;
            }
        }
        return what == 0 ? best : least;
    }

    int wake(int n, int what) {
        if (!camped() || n < 1 || n > 30 || what < 0 || what > 1) {
            return -2;
        }
        int best = NONE;
        int greatest = -1;
        for (int t = NONE; t < now.tents.size(); t++) {
            State s = now.copy();
            if (t >= 0) {
                s.tents.get(t).asked++;
            }
            State then = later(s, inForce, n);
            int woken = 0;
            for (int u = 0; u < now.tents.size(); u++) {
                woken += s.tents.get(u).asked == 0 && then.tents.get(u).asked > 0 ? 1 : 0;
            }
            if (woken > greatest) {
                greatest = woken;
                best = t;
            }
        }
        return what == 0 ? best : greatest;
    }

    int pence(int much, int t) {
        if (noTent(t) || much < 0 || much > 9999) {
            return NONE;
        }
        int all = now.asked();
        if (all == 0) {
            return 0;
        }
        int[] parts = new int[now.tents.size()];
        List<Integer> order = new ArrayList<>();
        int left = much;
        for (int u = 0; u < parts.length; u++) {
            parts[u] = much * now.tents.get(u).asked / all;
            left -= parts[u];
            order.add(u);
        }
        order.sort((a, b) -> Integer.compare(much * now.tents.get(b).asked % all, much * now.tents.get(a).asked % all));
        for (int i = 0; i < left; i++) {
            parts[order.get(i)]++;
        }
        return parts[t];
    }

    int game(int t, int n, int what) {
        if (noTent(t) || n < 1 || n > 4 || what < 0 || what > 1) {
            return NONE;
        }
        int best = -1;
        int least = 99;
        for (int c = 0; c < now.cells(); c++) {
            if (c == now.question || now.apart(c, now.question) == 1 && !now.bushes.contains(c)) {
                int end = played(c, now.tents.get(t).cell, n - 1, false);
                if (end < least) {
                    least = end;
                    best = c;
                }
            }
        }
        return what == 0 ? least : best;
    }

    int played(int q, int t, int turns, boolean questions) {
        if (turns == 0) {
            return now.apart(q, t);
        }
        int best = questions ? 99 : -1;
        List<Integer> options = now.beside(questions ? q : t);
        options.add(questions ? q : t);
        for (int c : options) {
            if (questions && (c == q || !now.bushes.contains(c))) {
                best = Math.min(best, played(c, t, turns - 1, false));
            } else if (!questions) {
                best = Math.max(best, played(q, c, turns - 1, true));
            }
        }
        return best;
    }

    int[] trace(State from, int rule, int steps) {
        int[] trace = new int[steps + 1];
        State s = from.copy();
        for (int i = 0; i <= steps; i++) {
            trace[i] = s.question;
            s.go(ruleOf(rule));
        }
        return trace;
    }

    int ring(int what) {
        if (!camped() || what < 0 || what > 1) {
            return NONE;
        }
        int[] trace = trace(now, inForce, 65);
        for (int i = 0; i < 60; i++) {
            for (int j = i + 1; j <= 60; j++) {
                if (Arrays.equals(Arrays.copyOfRange(trace, i, i + 6), Arrays.copyOfRange(trace, j, j + 6))) {
                    return what == 0 ? now.step + i : j - i;
                }
            }
        }
        return -2;
    }

    int note(int n, int c) {
        if (n == NONE) {
            notes.clear();
            return 0;
        }
        if (n < 0 || n > 60 || noCell(c) || notes.size() == 10) {
            return -2;
        }
        notes.add(new int[] {n, c});
        return notes.size();
    }

    List<Integer> fitting() {
        List<Integer> found = new ArrayList<>();
        for (int r = NONE; r < rules.size(); r++) {
            int[] trace = trace(told, r, 60);
            if (notes.stream().allMatch(note -> trace[note[0]] == note[1])) {
                found.add(r);
            }
        }
        return found;
    }

    int ruled(int what) {
        if (!camped() || what < 0 || what > 1) {
            return -3;
        }
        List<Integer> found = fitting();
        return what == 0 ? found.size() : found.isEmpty() ? -2 : found.get(0);
    }

    int look(int what) {
        if (!camped() || what < 0 || what > 1) {
            return NONE;
        }
        List<int[]> traces = new ArrayList<>();
        for (int r : fitting()) {
            traces.add(trace(told, r, 60));
        }
        if (traces.isEmpty()) {
            return -2;
        }
        int best = -1;
        int fewest = 99;
        for (int i = 0; i <= 60; i++) {
            int[] crowd = new int[36];
            for (int[] trace : traces) {
                crowd[trace[i]]++;
            }
            int most = Arrays.stream(crowd).max().getAsInt();
            if (most < fewest) {
                fewest = most;
                best = i;
            }
        }
        return what == 0 ? best : fewest;
    }

    int seed(int to) {
        if (to < 0) {
            return NONE;
        }
        int was = (int) x;
        x = to;
        return was;
    }

    int draw() {
        x = (x * 1103515245L + 12345L) % 2147483648L;
        return (int) (x / 65536);
    }

    int winds(int m, int n, int p, int what) {
        if (!camped() || m < 1 || m > 10 || n < 1 || n > 60 || p < 0 || p > 100 || what < 0 || what > 1) {
            return NONE;
        }
        long kept = x;
        int asked = 0;
        int bits = 0;
        for (int i = 0; i < m; i++) {
            State s = now.copy();
            for (int j = 0; j < n; j++) {
                if (draw() % 100 < p) {
                    int side = s.side;
                    int row = s.question / side;
                    int column = s.question % side;
                    int where = draw() % 4;
                    row += where == 2 ? -1 : where == 3 ? 1 : 0;
                    column += where == 0 ? -1 : where == 1 ? 1 : 0;
                    boolean inside = row >= 0 && row < side && column >= 0 && column < side;
                    if (inside && !s.bushes.contains(row * side + column)) {
                        s.question = row * side + column;
                    }
                }
                s.go(ruleOf(inForce));
            }
            asked += s.asked() - now.asked();
            bits += Integer.bitCount(s.bits);
        }
        x = kept;
        return what == 0 ? asked : bits;
    }

    int count(int what) {
        int everAsked = 0;
        for (int t = 0; t < now.tents.size(); t++) {
            everAsked |= now.tents.get(t).asked > 0 ? 1 << t : 0;
        }
        int[] all = {now.side, now.tents.size(), rules.size(), inForce, now.step, camped() ? now.question : NONE,
            now.bits, everAsked, now.asked(), now.bushes.size(), notes.size(), undo.size(), (int) x, tape.length()};
        return what < 0 || what >= all.length ? NONE : all[what];
    }

    int image(int k) {
        if (k < 0 || k > 3) {
            return NONE;
        }
        images[k] = new Object[] {told.copy(), now.copy(), inForce, x, new ArrayList<>(notes)};
        return now.step;
    }

    @SuppressWarnings("unchecked")
    int back(int k) {
        if (k < 0 || k > 3 || images[k] == null) {
            return NONE;
        }
        told = ((State) images[k][0]).copy();
        now = ((State) images[k][1]).copy();
        inForce = (Integer) images[k][2];
        x = (Long) images[k][3];
        notes = new ArrayList<>((List<int[]>) images[k][4]);
        undo.clear();
        return now.step;
    }
}
