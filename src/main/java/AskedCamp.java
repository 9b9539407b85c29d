/**
 * A camp whose tents are pitched round the question. The numbered promises of the document tell
 * what each call answers. The words of the document are used here as it uses them: "ahead" is
 * before, "behind" is after.
 */
public final class AskedCamp {
    public static final int NONE = -1;

    private static final int NOTHING_SUCH = -2;
    private static final int NOT_TOLD_OF = -3;
    private static final int TENTS_AT_MOST = 6;
    private static final int CELLS_AT_MOST = 36;
    private static final int STEADY_AT_MOST = 9;
    private static final int NERVE_AT_MOST = 99;
    private static final int LAST_STEP_BY_HAND = 999;
    private static final int IMAGES = 4;
    private static final int STEPS_AHEAD_AT_MOST = 100;
    private static final int STEPS_TRIED_AT_MOST = 30;
    private static final int PENCE_AT_MOST = 9999;
    private static final int TURNS_AT_MOST = 4;
    private static final int TRACED_STEPS = 60;

    /** The ways out of a CELL, as the winds number them; STAY is none of them. */
    private static final int AHEAD_IN_ROW = 0;
    private static final int BEHIND_IN_ROW = 1;
    private static final int ROW_AHEAD = 2;
    private static final int ROW_BEHIND = 3;
    private static final int STAY = 4;

    /** The ways out, so that the CELLS they lead to go upwards: of several the first is the least. */
    private static final int[] UPWARDS = {ROW_AHEAD, AHEAD_IN_ROW, BEHIND_IN_ROW, ROW_BEHIND};
    private static final int[] UPWARDS_OR_STAY =
            {ROW_AHEAD, AHEAD_IN_ROW, STAY, BEHIND_IN_ROW, ROW_BEHIND};

    private final Tape tape;
    private final CampReader campReader;
    private final RuleReader ruleReader;
    private final RuleBook rules;
    private final Scene scene;
    private final Scene[] images;
    private final Acts acts;
    private final Foresight foresight;
    private final Sleuth sleuth;
    private final Siege siege;

    public AskedCamp() {
        tape = new Tape();
        campReader = new CampReader(tape);
        ruleReader = new RuleReader(tape);
        rules = new RuleBook();
        scene = new Scene();
        images = new Scene[IMAGES];
        for (int k = 0; k < IMAGES; k++) {
            images[k] = new Scene();
        }
        acts = new Acts();
        foresight = new Foresight(rules);
        sleuth = new Sleuth(rules);
        siege = new Siege();
    }

    // ---- the tape, the camp and the rules

    public int feed(int a, int b, int c, int d, int e) {
        if (!tape.hasRoom()) {
            return NONE;
        }
        tape.append(a);
        tape.append(b);
        tape.append(c);
        tape.append(d);
        tape.append(e);
        return tape.size;
    }

    public int end(int n) {
        if (n < 0 || n > tape.size) {
            return NONE;
        }
        tape.size = n;
        return n;
    }

    public int camp() {
        // read apart from the CAMP there is, which stays if the text has a FAULT
        World read = foresight.trial;
        campReader.read(read);
        tape.size = 0;
        if (tape.fault != 0) {
            return -2 - tape.fault;
        }
        scene.told.copyFrom(read);
        scene.now.copyFrom(read);
        scene.notes = 0;
        acts.forget();
        return read.tents;
    }

    public int rule() {
        if (rules.isFull()) {
            return NONE;
        }
        ruleReader.read();
        tape.size = 0;
        if (tape.fault != 0) {
            return -2 - tape.fault;
        }
        return rules.add(ruleReader.code, ruleReader.size);
    }

    public int force(int rule) {
        if (rule != NONE && !rules.has(rule)) {
            return NOTHING_SUCH;
        }
        int was = scene.inForce;
        scene.inForce = rule;
        return was;
    }

    // ---- how it stands

    public int tent(int tent, int what) {
        World now = scene.now;
        if (!now.hasTent(tent)) {
            return NONE;
        }
        switch (what) {
            case 0: return now.tentCell[tent];
            case 1: return now.nerve[tent];
            case 2: return now.asked[tent];
            case 3: return now.knows[tent];
            default: return NONE;
        }
    }

    public int cell(int cell, int what) {
        World now = scene.now;
        if (!now.hasCell(cell)) {
            return NONE;
        }
        switch (what) {
            case 0: return now.isFree(cell) ? 0 : 1;
            case 1: return now.been[cell];
            case 2: return now.tentsOn(cell);
            default: return NONE;
        }
    }

    public int count(int what) {
        World now = scene.now;
        switch (what) {
            case 0: return now.side;
            case 1: return now.tents;
            case 2: return rules.size;
            case 3: return scene.inForce;
            case 4: return now.stepNumber;
            case 5: return now.isPitched() ? now.question : NONE;
            case 6: return now.bits;
            case 7: return now.everAsked();
            case 8: return now.askedInAll();
            case 9: return Long.bitCount(now.bushes);
            case 10: return scene.notes;
            case 11: return acts.kept;
            case 12: return scene.x;
            case 13: return tape.size;
            default: return NONE;
        }
    }

    // ---- acts

    public int step() {
        World now = scene.now;
        if (!now.isPitched() || now.stepNumber >= LAST_STEP_BY_HAND) {
            return NONE;
        }
        acts.keep(now);
        rules.stride(now, scene.inForce, 1);
        return now.question;
    }

    public int whistle(int cell) {
        World now = scene.now;
        if (!now.hasCell(cell)) {
            return NONE;
        }
        int next = now.towards(1L << cell);
        if (next == now.question) {
            return NONE;
        }
        acts.keep(now);
        now.question = next;
        return next;
    }

    public int pitch(int tent, int cell) {
        World now = scene.now;
        if (!now.hasTent(tent) || !now.hasCell(cell) || now.tentCell[tent] == cell) {
            return NONE;
        }
        acts.keep(now);
        int was = now.tentCell[tent];
        now.tentCell[tent] = cell;
        return was;
    }

    public int steady(int tent, int much) {
        World now = scene.now;
        if (!now.hasTent(tent) || much < 1 || much > STEADY_AT_MOST) {
            return NONE;
        }
        acts.keep(now);
        now.nerve[tent] = Math.min(now.nerve[tent] + much, NERVE_AT_MOST);
        return now.nerve[tent];
    }

    public int bush(int cell) {
        World now = scene.now;
        if (!now.hasCell(cell)) {
            return NONE;
        }
        acts.keep(now);
        now.bushes ^= 1L << cell;
        return now.isFree(cell) ? 0 : 1;
    }

    public int undo() {
        if (acts.kept == 0) {
            return NONE;
        }
        acts.takeBack(scene.now);
        return acts.kept;
    }

    // ---- what is asked of the steps to come

    public int ahead(int tent, int n, int what) {
        World now = scene.now;
        if (!now.isPitched() || n < 0 || n > STEPS_AHEAD_AT_MOST || what < 0 || what > 2) {
            return NONE;
        }
        if (what != 0 && !now.hasTent(tent)) {
            return NONE;
        }
        World then = foresight.after(scene, n);
        if (what == 0) {
            return then.question;
        }
        return what == 1 ? then.asked[tent] : then.knows[tent];
    }

    public int first(int tent) {
        return scene.now.hasTent(tent) ? foresight.firstAsked(scene, tent) : NONE;
    }

    public int knowsAll(int tent) {
        return scene.now.hasTent(tent) ? foresight.firstKnowing(scene, tent) : NOT_TOLD_OF;
    }

    public int most(int n, int what) {
        if (!scene.now.isPitched() || n < 1 || n > STEPS_AHEAD_AT_MOST || what < 0 || what > 1) {
            return NONE;
        }
        foresight.findMostAsked(scene, n);
        return what == 0 ? foresight.which : foresight.often;
    }

    public int hide(int tent, int n, int what) {
        if (!scene.now.hasTent(tent) || n < 1 || n > STEPS_TRIED_AT_MOST || what < 0 || what > 1) {
            return NONE;
        }
        foresight.findHidingCell(scene, tent, n);
        return what == 0 ? foresight.which : foresight.often;
    }

    public int wake(int n, int what) {
        if (!scene.now.isPitched() || n < 1 || n > STEPS_TRIED_AT_MOST || what < 0 || what > 1) {
            return NOTHING_SUCH;
        }
        foresight.findWhomToWake(scene, n);
        return what == 0 ? foresight.which : foresight.often;
    }

    public int ring(int what) {
        if (!scene.now.isPitched() || what < 0 || what > 1) {
            return NONE;
        }
        foresight.findRing(scene);
        return what == 0 ? foresight.which : foresight.often;
    }

    public int winds(int m, int n, int p, int what) {
        if (!scene.now.isPitched() || m < 1 || m > 10 || n < 1 || n > TRACED_STEPS) {
            return NONE;
        }
        if (p < 0 || p > 100 || what < 0 || what > 1) {
            return NONE;
        }
        foresight.blow(scene, m, n, p);
        return what == 0 ? foresight.often : foresight.gathered;
    }

    public int seed(int x) {
        if (x < 0) {
            return NONE;
        }
        int was = scene.x;
        scene.x = x;
        return was;
    }

    // ---- what is asked of the ground as it stands

    public int way(int cell) {
        World now = scene.now;
        if (!now.hasCell(cell)) {
            return NONE;
        }
        int far = now.distance(now.question, 1L << cell);
        return far == NONE ? NOTHING_SUCH : far;
    }

    public int reach(int n) {
        if (!scene.now.isPitched() || n < 0 || n > CELLS_AT_MOST) {
            return NONE;
        }
        return Long.bitCount(scene.now.reachedIn(n));
    }

    public int cut(int tent, int what) {
        if (!scene.now.hasTent(tent) || what < 0 || what > Siege.BUSHES_AT_MOST) {
            return NONE;
        }
        siege.findCut(scene.now, tent);
        if (what == 0) {
            return siege.fewest;
        }
        return what <= siege.fewest ? siege.cutCells[what - 1] : NOTHING_SUCH;
    }

    public int game(int tent, int n, int what) {
        if (!scene.now.hasTent(tent) || n < 1 || n > TURNS_AT_MOST || what < 0 || what > 1) {
            return NONE;
        }
        siege.play(scene.now, tent, n);
        return what == 0 ? siege.gap : siege.firstCell;
    }

    public int pence(int much, int tent) {
        if (!scene.now.hasTent(tent) || much < 0 || much > PENCE_AT_MOST) {
            return NONE;
        }
        return scene.now.penceOf(much, tent);
    }

    // ---- nights that were told

    public int note(int n, int cell) {
        if (n == NONE) {
            scene.notes = 0;
            return 0;
        }
        if (n < 0 || n > TRACED_STEPS || !scene.now.hasCell(cell) || !scene.writeDown(n, cell)) {
            return NOTHING_SUCH;
        }
        return scene.notes;
    }

    public int ruled(int what) {
        if (!scene.now.isPitched() || what < 0 || what > 1) {
            return NOT_TOLD_OF;
        }
        sleuth.trace(scene);
        return what == 0 ? sleuth.fitting() : sleuth.firstFitting();
    }

    public int look(int what) {
        if (!scene.now.isPitched() || what < 0 || what > 1) {
            return NONE;
        }
        sleuth.trace(scene);
        sleuth.findParting();
        return what == 0 ? sleuth.partingStep : sleuth.mostAlike;
    }

    // ---- images

    public int image(int k) {
        if (k < 0 || k >= IMAGES) {
            return NONE;
        }
        images[k].copyFrom(scene);
        images[k].made = true;
        return scene.now.stepNumber;
    }

    public int back(int k) {
        if (k < 0 || k >= IMAGES || !images[k].made) {
            return NONE;
        }
        scene.copyFrom(images[k]);
        acts.forget();
        return scene.now.stepNumber;
    }

    /** The bytes that were fed, and how far along they are read. */
    private static final class Tape {
        static final int LIMIT = 400;
        static final int FED_AT_ONCE = 20;
        static final int DIGITS_AT_MOST = 5;
        static final int END = -1;
        static final int WRONG_SIGN = 0;
        static final int WRONG_NUMBER = 1;
        static final int TOO_DEEP = 2;
        static final int TOO_MANY_VALUES = 3;
        static final int WRONG_CLAUSE = 4;

        final byte[] bytes;
        int size;
        int place;
        /** Where the WORD or NUMBER begins that was taken last. */
        int start;
        int number;
        /** The first FAULT of the text; 0 as long as there is none. */
        int fault;

        Tape() {
            bytes = new byte[LIMIT];
        }

        boolean hasRoom() {
            return size + FED_AT_ONCE <= LIMIT;
        }

        void append(int four) {
            for (int shift = 24; shift >= 0; shift -= 8) {
                if (size < LIMIT) {
                    bytes[size] = (byte) (four >>> shift);
                    size++;
                }
            }
        }

        void startReading() {
            place = 0;
            start = 0;
            fault = 0;
        }

        void fail(int where, int kind) {
            if (fault == 0) {
                fault = 1 + 8 * where + kind;
            }
        }

        /** The sign at which the text stands behind blanks, or END. */
        int peek() {
            while (place < size && bytes[place] == ' ') {
                place++;
            }
            return place < size ? bytes[place] & 255 : END;
        }

        /** Takes the small letters that stand here, none if there are none. */
        void takeWord() {
            peek();
            start = place;
            while (place < size && bytes[place] >= 'a' && bytes[place] <= 'z') {
                place++;
            }
        }

        boolean wordIs(String word) {
            if (place - start != word.length()) {
                return false;
            }
            for (int i = 0; i < word.length(); i++) {
                if (bytes[start + i] != word.charAt(i)) {
                    return false;
                }
            }
            return true;
        }

        void putWordBack() {
            place = start;
        }

        /** Takes a NUMBER from low to high into number: whether it stood here. */
        boolean takeNumber(int low, int high) {
            peek();
            start = place;
            number = 0;
            while (place < size && bytes[place] >= '0' && bytes[place] <= '9') {
                // more digits are a FAULT anyhow, and must not overflow
                if (place - start < DIGITS_AT_MOST) {
                    number = number * 10 + bytes[place] - '0';
                }
                place++;
            }
            if (place == start) {
                fail(start, WRONG_SIGN);
            } else if (place - start > DIGITS_AT_MOST || number < low || number > high) {
                fail(start, WRONG_NUMBER);
            }
            return fault == 0;
        }

        /** Whether a semicolon leads to one CLAUSE more; anything but that or the end is a FAULT. */
        boolean takeSemicolon() {
            if (fault != 0) {
                return false;
            }
            int sign = peek();
            if (sign == ';') {
                place++;
                return true;
            }
            if (sign != END) {
                fail(place, WRONG_SIGN);
            }
            return false;
        }
    }

    /** Reads a TAPE as a CAMP. */
    private static final class CampReader {
        static final int CLAUSES_AT_MOST = 40;
        static final int LEAST_SIDE = 2;
        static final int GREATEST_SIDE = 6;
        static final int GREATEST_NERVE = 20;

        private final Tape tape;

        CampReader(Tape tape) {
            this.tape = tape;
        }

        /** Makes the world what the tape tells; it is of no use if tape.fault is not 0 then. */
        void read(World world) {
            world.clear();
            tape.startReading();
            // the CLAUSE that is one too many is a FAULT, so that the bound is never passed
            for (int clause = 1; clause <= CLAUSES_AT_MOST + 1; clause++) {
                readClause(world, clause);
                if (!tape.takeSemicolon()) {
                    return;
                }
            }
        }

        private void readClause(World world, int clause) {
            tape.takeWord();
            boolean isCamp = tape.wordIs("camp");
            boolean isTent = tape.wordIs("tent");
            if (!isCamp && !isTent && !tape.wordIs("bush")) {
                tape.fail(tape.start, Tape.WRONG_SIGN);
                return;
            }
            boolean outOfPlace = isCamp != (clause == 1) || clause > CLAUSES_AT_MOST;
            if (outOfPlace || isTent && world.tents >= TENTS_AT_MOST) {
                tape.fail(tape.start, Tape.WRONG_CLAUSE);
                return;
            }
            if (isCamp) {
                readSquare(world);
            } else if (isTent) {
                readTent(world);
            } else if (tape.takeNumber(0, world.cells - 1)) {
                world.bushes |= 1L << tape.number;
            }
        }

        private void readSquare(World world) {
            if (!tape.takeNumber(LEAST_SIDE, GREATEST_SIDE)) {
                return;
            }
            world.side = tape.number;
            world.cells = tape.number * tape.number;
            if (tape.takeNumber(0, world.cells - 1)) {
                world.question = tape.number;
            }
        }

        private void readTent(World world) {
            if (!tape.takeNumber(0, world.cells - 1)) {
                return;
            }
            int cell = tape.number;
            if (tape.takeNumber(0, GREATEST_NERVE)) {
                world.addTent(cell, tape.number);
            }
        }
    }

    /**
     * Reads a TAPE as a RULE, into a code for a stack: a NUMBER stands for itself, all else is
     * below 0. Of each CLAUSE the SUM comes first, then its TEST, then GO or IF.
     */
    private static final class RuleReader {
        static final int CLAUSES_AT_MOST = 12;
        static final int DEPTH_AT_MOST = 10;
        static final int COUNTED_AT_MOST = 60;
        /** Each piece of the code comes from a byte of its own, so that it has room. */
        static final int CODE_AT_MOST = Tape.LIMIT;
        static final int GREATEST_NUMBER = 99999;

        final int[] code;
        int size;
        private final Tape tape;
        /** The signs [ and not, and the words and, or, whose code is still to come. */
        private final int[] pending;
        private int pendingSize;
        private int depth;
        private int brackets;
        private int counted;

        RuleReader(Tape tape) {
            this.tape = tape;
            code = new int[CODE_AT_MOST];
            // each of the 10 brackets has at most an or and an and ahead of it
            pending = new int[3 * DEPTH_AT_MOST + 3];
        }

        void read() {
            size = 0;
            counted = 0;
            tape.startReading();
            for (int clause = 1; clause <= CLAUSES_AT_MOST + 1; clause++) {
                tape.takeWord();
                if (!tape.wordIs("go")) {
                    tape.fail(tape.start, Tape.WRONG_SIGN);
                } else if (clause > CLAUSES_AT_MOST) {
                    tape.fail(tape.start, Tape.WRONG_CLAUSE);
                }
                readSum();
                tape.takeWord();
                if (tape.wordIs("if")) {
                    readTest();
                    emit(Op.IF);
                } else {
                    tape.putWordBack();
                    emit(Op.GO);
                }
                if (!tape.takeSemicolon()) {
                    return;
                }
            }
        }

        private void readTest() {
            pendingSize = 0;
            depth = 0;
            brackets = 0;
            boolean more = true;
            // each round takes a byte at least
            for (int round = 0; more && round < Tape.LIMIT; round++) {
                openFact();
                readSum();
                int sign = readSign();
                readSum();
                emit(sign);
                more = tape.fault == 0 && closeFact();
            }
        }

        /** Takes all [ and not that stand ahead of a SUM SIGN SUM. */
        private void openFact() {
            for (int round = 0; round <= DEPTH_AT_MOST; round++) {
                int opened = takeOpening();
                if (opened == 0) {
                    return;
                }
                if (depth >= DEPTH_AT_MOST) {
                    tape.fail(tape.start, Tape.TOO_DEEP);
                    return;
                }
                depth++;
                push(opened);
            }
        }

        private int takeOpening() {
            if (tape.peek() == '[') {
                tape.start = tape.place;
                tape.place++;
                brackets++;
                return Op.BRACKET;
            }
            tape.takeWord();
            if (tape.wordIs("not")) {
                return Op.NOT;
            }
            tape.putWordBack();
            return 0;
        }

        /** Takes what stands behind a FACT: whether another FACT of this TEST must follow. */
        private boolean closeFact() {
            for (int round = 0; round <= DEPTH_AT_MOST; round++) {
                popDownTo(Op.NOT);
                if (brackets == 0 || tape.peek() != ']') {
                    break;
                }
                tape.place++;
                popDownTo(Op.OR);
                pendingSize = Math.max(pendingSize - 1, 0);
                depth--;
                brackets--;
            }
            tape.takeWord();
            if (tape.wordIs("and")) {
                popDownTo(Op.AND);
                push(Op.AND);
                return true;
            }
            popDownTo(Op.OR);
            if (tape.wordIs("or")) {
                push(Op.OR);
                return true;
            }
            tape.putWordBack();
            if (brackets > 0) {
                tape.fail(tape.place, Tape.WRONG_SIGN);
            }
            return false;
        }

        /** The pending ones on top that bind at least as fast as this one come into the code. */
        private void popDownTo(int loosest) {
            for (int top = pendingSize - 1; top >= 0; top--) {
                int op = pending[top];
                if (op == Op.BRACKET || op > loosest) {
                    return;
                }
                if (op == Op.NOT) {
                    depth--;
                }
                emit(op);
                pendingSize = top;
            }
        }

        private void push(int op) {
            if (pendingSize < pending.length) {
                pending[pendingSize] = op;
                pendingSize++;
            }
        }

        private void readSum() {
            int adding = 0;
            int multiplying = 0;
            // one VALUE too many is a FAULT, so that the bound is never passed
            for (int values = 0; values <= COUNTED_AT_MOST && readValue(); values++) {
                emit(multiplying);
                int sign = tape.peek();
                multiplying = Op.ofMultiplying(sign);
                if (multiplying == 0) {
                    emit(adding);
                    adding = Op.ofAdding(sign);
                    if (adding == 0) {
                        return;
                    }
                }
                tape.place++;
            }
        }

        /** Reads a VALUE: whether there was one, and no FAULT. */
        private boolean readValue() {
            if (tape.fault != 0) {
                return false;
            }
            tape.takeWord();
            int first = tape.start;
            int value = Op.ofWord(tape);
            if (value == 0) {
                tape.putWordBack();
                tape.takeNumber(0, GREATEST_NUMBER);
                value = tape.number;
            }
            countOne(first);
            emit(value == 0 ? Op.ZERO : value);
            return tape.fault == 0;
        }

        private int readSign() {
            if (tape.fault != 0) {
                return 0;
            }
            int sign = tape.peek();
            int first = tape.place;
            int op = Op.ofSign(sign);
            if (op == 0) {
                tape.fail(first, Tape.WRONG_SIGN);
                return 0;
            }
            tape.place++;
            boolean orSame = op != Op.SAME && tape.place < tape.size && tape.bytes[tape.place] == '=';
            if (orSame) {
                tape.place++;
            }
            countOne(first);
            if (!orSame) {
                return op;
            }
            return op == Op.LESS ? Op.AT_MOST : Op.AT_LEAST;
        }

        private void countOne(int where) {
            counted++;
            if (counted > COUNTED_AT_MOST) {
                tape.fail(where, Tape.TOO_MANY_VALUES);
            }
        }

        /** Puts a piece behind the code; 0 is none. */
        private void emit(int op) {
            if (op != 0 && size < CODE_AT_MOST) {
                code[size] = op;
                size++;
            }
        }
    }

    /** The pieces of a RULE's code that are no NUMBER above 0. */
    private static final class Op {
        static final int CELL = -1;
        static final int ROW = -2;
        static final int COLUMN = -3;
        static final int TENTS = -4;
        static final int NERVE = -5;
        static final int BEEN = -6;
        static final int NEAR = -7;
        static final int BUSHES = -8;
        static final int BITS = -9;
        static final int ASKED = -10;
        static final int STEP = -11;
        static final int ZERO = -12;
        static final int LAST_VALUE = -12;

        static final int ADD = -20;
        static final int SUBTRACT = -21;
        static final int MULTIPLY = -22;
        static final int DIVIDE = -23;
        static final int REST = -24;
        static final int LESS = -25;
        static final int AT_MOST = -26;
        static final int SAME = -27;
        static final int AT_LEAST = -28;
        static final int MORE = -29;

        /** The faster one binds, the lower it is. */
        static final int BRACKET = -33;
        static final int OR = -34;
        static final int AND = -35;
        static final int NOT = -36;

        static final int GO = -40;
        static final int IF = -41;

        private Op() {
        }

        /** What the WORD that the tape took last is, 0 if it is none of a VALUE. */
        static int ofWord(Tape tape) {
            if (tape.wordIs("cell")) {
                return CELL;
            }
            if (tape.wordIs("row")) {
                return ROW;
            }
            if (tape.wordIs("column")) {
                return COLUMN;
            }
            if (tape.wordIs("tents")) {
                return TENTS;
            }
            if (tape.wordIs("nerve")) {
                return NERVE;
            }
            if (tape.wordIs("been")) {
                return BEEN;
            }
            if (tape.wordIs("near")) {
                return NEAR;
            }
            if (tape.wordIs("bushes")) {
                return BUSHES;
            }
            if (tape.wordIs("bits")) {
                return BITS;
            }
            if (tape.wordIs("asked")) {
                return ASKED;
            }
            return tape.wordIs("step") ? STEP : 0;
        }

        static int ofMultiplying(int sign) {
            switch (sign) {
                case '*': return MULTIPLY;
                case '/': return DIVIDE;
                case '%': return REST;
                default: return 0;
            }
        }

        static int ofAdding(int sign) {
            switch (sign) {
                case '+': return ADD;
                case '-': return SUBTRACT;
                default: return 0;
            }
        }

        static int ofSign(int sign) {
            switch (sign) {
                case '<': return LESS;
                case '=': return SAME;
                case '>': return MORE;
                default: return 0;
            }
        }
    }

    /** The RULES that were told, and STEPS by one of them or by none. */
    private static final class RuleBook {
        static final int RULES_AT_MOST = 6;
        static final int FAR = 99;

        int size;
        private final int[][] codes;
        private final int[] sizes;
        private final boolean[] usesNear;
        private final long[] stack;
        private int top;
        private int near;

        RuleBook() {
            codes = new int[RULES_AT_MOST][RuleReader.CODE_AT_MOST];
            sizes = new int[RULES_AT_MOST];
            usesNear = new boolean[RULES_AT_MOST];
            stack = new long[RuleReader.COUNTED_AT_MOST];
        }

        boolean isFull() {
            return size >= RULES_AT_MOST;
        }

        boolean has(int rule) {
            return rule >= 0 && rule < size;
        }

        int add(int[] code, int length) {
            if (isFull() || length > code.length || length > RuleReader.CODE_AT_MOST) {
                return NONE;
            }
            int rule = size;
            usesNear[rule] = false;
            for (int i = 0; i < length; i++) {
                codes[rule][i] = code[i];
                if (code[i] == Op.NEAR) {
                    usesNear[rule] = true;
                }
            }
            sizes[rule] = length;
            size++;
            return rule;
        }

        /** Makes n STEPS; without a CAMP there is nothing to go on. */
        void stride(World world, int rule, int n) {
            for (int i = 0; i < n && world.hasCell(world.question); i++) {
                if (has(rule)) {
                    world.question = favourite(world, rule);
                } else {
                    world.question = world.towards(world.cellsToAsk());
                }
                world.been[world.question]++;
                world.askWhoIsHere();
                world.stepNumber++;
            }
        }

        private int favourite(World world, int rule) {
            long toAsk = world.cellsToAsk();
            int best = world.question;
            long most = 0;
            for (int i = 0; i < UPWARDS.length; i++) {
                int next = world.passable(world.question, UPWARDS[i]);
                if (next == NONE) {
                    continue;
                }
                // once a CELL, not once a word: it is the dearest of the words
                int far = usesNear[rule] ? world.distance(next, toAsk) : NONE;
                near = far == NONE ? FAR : far;
                long worth = worthOf(rule, world, next);
                if (worth > most) {
                    most = worth;
                    best = next;
                }
            }
            return best;
        }

        /** The SUM of the first CLAUSE that goes for this CELL; 0 without. */
        private long worthOf(int rule, World world, int cell) {
            top = 0;
            for (int i = 0; i < sizes[rule]; i++) {
                int op = codes[rule][i];
                if (op >= Op.LAST_VALUE) {
                    push(op >= 0 ? op : valueOf(op, world, cell));
                } else if (op == Op.GO) {
                    return pop();
                } else if (op == Op.IF) {
                    boolean holds = pop() != 0;
                    long sum = pop();
                    if (holds) {
                        return sum;
                    }
                } else if (op == Op.NOT) {
                    push(pop() == 0 ? 1 : 0);
                } else {
                    long right = pop();
                    push(joined(op, pop(), right));
                }
            }
            return 0;
        }

        private long valueOf(int word, World world, int cell) {
            switch (word) {
                case Op.CELL: return cell;
                case Op.ROW: return world.rowOf(cell);
                case Op.COLUMN: return world.columnOf(cell);
                case Op.TENTS: return Integer.bitCount(world.tentsOn(cell));
                case Op.NERVE: return world.leastNerveOn(cell);
                case Op.BEEN: return world.been[cell];
                case Op.NEAR: return near;
                case Op.BUSHES: return Long.bitCount(world.spread(1L << cell) & world.bushes);
                case Op.BITS: return Integer.bitCount(world.bits);
                case Op.ASKED: return world.askedInAll();
                case Op.STEP: return world.stepNumber;
                default: return 0;
            }
        }

        private static long joined(int op, long left, long right) {
            switch (op) {
                case Op.ADD: return left + right;
                case Op.SUBTRACT: return left - right;
                case Op.MULTIPLY: return left * right;
                case Op.DIVIDE: return right == 0 ? 0 : left / right;
                case Op.REST: return right == 0 ? 0 : left % right;
                case Op.LESS: return left < right ? 1 : 0;
                case Op.AT_MOST: return left <= right ? 1 : 0;
                case Op.SAME: return left == right ? 1 : 0;
                case Op.AT_LEAST: return left >= right ? 1 : 0;
                case Op.MORE: return left > right ? 1 : 0;
                case Op.AND: return left & right;
                case Op.OR: return left | right;
                default: return 0;
            }
        }

        private void push(long value) {
            if (top < stack.length) {
                stack[top] = value;
                top++;
            }
        }

        private long pop() {
            if (top <= 0) {
                return 0;
            }
            top--;
            return stack[top];
        }
    }

    /** All that ACTS change: the square, the QUESTION, the TENTS and the BUSHES. */
    private static final class World {
        /** By SIDE: the CELLS of the first column, and all, as bits by CELL. */
        static final long[] FIRST_COLUMN = {0L, 0L, 0x5L, 0x49L, 0x1111L, 0x108421L, 0x41041041L};
        static final long[] ALL_CELLS = {0L, 0L, 0xFL, 0x1FFL, 0xFFFFL, 0x1FFFFFFL, 0xFFFFFFFFFL};

        int side;
        int cells;
        int question;
        int stepNumber;
        int bits;
        int tents;
        long bushes;
        final int[] tentCell;
        final int[] nerve;
        final int[] asked;
        final int[] knows;
        final int[] been;

        World() {
            tentCell = new int[TENTS_AT_MOST];
            nerve = new int[TENTS_AT_MOST];
            asked = new int[TENTS_AT_MOST];
            knows = new int[TENTS_AT_MOST];
            been = new int[CELLS_AT_MOST];
        }

        void clear() {
            side = 0;
            cells = 0;
            question = 0;
            stepNumber = 0;
            bits = 0;
            tents = 0;
            bushes = 0;
            for (int cell = 0; cell < CELLS_AT_MOST; cell++) {
                been[cell] = 0;
            }
        }

        void copyFrom(World other) {
            side = other.side;
            cells = other.cells;
            question = other.question;
            stepNumber = other.stepNumber;
            bits = other.bits;
            tents = other.tents;
            bushes = other.bushes;
            for (int tent = 0; tent < TENTS_AT_MOST; tent++) {
                tentCell[tent] = other.tentCell[tent];
                nerve[tent] = other.nerve[tent];
                asked[tent] = other.asked[tent];
                knows[tent] = other.knows[tent];
            }
            System.arraycopy(other.been, 0, been, 0, CELLS_AT_MOST);
        }

        void addTent(int cell, int itsNerve) {
            if (tents < TENTS_AT_MOST) {
                tentCell[tents] = cell;
                nerve[tents] = itsNerve;
                asked[tents] = 0;
                knows[tents] = 1 << tents;
                tents++;
            }
        }

        /** Whether there is a CAMP. */
        boolean isPitched() {
            return side > 0;
        }

        boolean hasTent(int tent) {
            return tent >= 0 && tent < tents;
        }

        boolean hasCell(int cell) {
            return cell >= 0 && cell < cells;
        }

        boolean isFree(int cell) {
            return (bushes >>> cell & 1) == 0;
        }

        int rowOf(int cell) {
            return side > 0 ? cell / side : 0;
        }

        int columnOf(int cell) {
            return side > 0 ? cell % side : 0;
        }

        /** The CELL that lies beside one on a way out (itself by STAY), NONE beyond the square. */
        int beside(int cell, int wayOut) {
            int column = side > 0 ? cell % side : 0;
            switch (wayOut) {
                case AHEAD_IN_ROW: return column > 0 ? cell - 1 : NONE;
                case BEHIND_IN_ROW: return column < side - 1 ? cell + 1 : NONE;
                case ROW_AHEAD: return cell >= side ? cell - side : NONE;
                case ROW_BEHIND: return cell + side < cells ? cell + side : NONE;
                default: return cell;
            }
        }

        /** Where the QUESTION comes by a way out: NONE beyond the square or through a BUSH. */
        int passable(int cell, int wayOut) {
            int next = beside(cell, wayOut);
            return next == NONE || isFree(next) || wayOut == STAY ? next : NONE;
        }

        /** All CELLS beside these (as bits), some of these among them. */
        long spread(long from) {
            if (side < 0 || side >= FIRST_COLUMN.length) {
                return 0;
            }
            long firstColumn = FIRST_COLUMN[side];
            long lastColumn = firstColumn << (side - 1);
            long inRows = (from & ~firstColumn) >>> 1 | (from & ~lastColumn) << 1;
            return (inRows | from >>> side | from << side) & ALL_CELLS[side];
        }

        /** How many CELLS a WAY to the nearest of these CELLS has, NONE without one. */
        int distance(int from, long targets) {
            long reached = 1L << from;
            for (int far = 0; far <= CELLS_AT_MOST; far++) {
                if ((reached & targets) != 0) {
                    return far;
                }
                long further = reached | spread(reached) & ~bushes;
                if (further == reached) {
                    return NONE;
                }
                reached = further;
            }
            return NONE;
        }

        long reachedIn(int n) {
            long reached = 1L << question;
            for (int far = 0; far < n; far++) {
                reached |= spread(reached) & ~bushes;
            }
            return reached;
        }

        /**
         * The first CELL of a WAY from the QUESTION to the nearest of these CELLS, the least one;
         * where it is, if it is on such a CELL, or there is no WAY.
         */
        int towards(long targets) {
            if ((1L << question & targets) != 0) {
                return question;
            }
            int best = question;
            int least = CELLS_AT_MOST;
            for (int i = 0; i < UPWARDS.length; i++) {
                int next = passable(question, UPWARDS[i]);
                int far = next == NONE ? NONE : distance(next, targets);
                if (far != NONE && far < least) {
                    least = far;
                    best = next;
                }
            }
            return best;
        }

        /** The TENTS on the QUESTION's CELL are ASKED. */
        void askWhoIsHere() {
            for (int tent = 0; tent < tents; tent++) {
                if (tentCell[tent] == question) {
                    asked[tent]++;
                    nerve[tent] = Math.max(nerve[tent] - 1, 0);
                    bits |= knows[tent];
                    knows[tent] |= bits;
                }
            }
        }

        int tentsOn(int cell) {
            int found = 0;
            for (int tent = 0; tent < tents; tent++) {
                if (tentCell[tent] == cell) {
                    found |= 1 << tent;
                }
            }
            return found;
        }

        int leastNerveOn(int cell) {
            int least = NERVE_AT_MOST;
            for (int tent = 0; tent < tents; tent++) {
                if (tentCell[tent] == cell) {
                    least = Math.min(least, nerve[tent]);
                }
            }
            return least;
        }

        /** The CELLS of the TENTS that were not asked yet, as bits. */
        long cellsToAsk() {
            long found = 0;
            for (int tent = 0; tent < tents; tent++) {
                if (asked[tent] == 0) {
                    found |= 1L << tentCell[tent];
                }
            }
            return found;
        }

        int everAsked() {
            int found = 0;
            for (int tent = 0; tent < tents; tent++) {
                if (asked[tent] > 0) {
                    found |= 1 << tent;
                }
            }
            return found;
        }

        int askedInAll() {
            int all = 0;
            for (int tent = 0; tent < tents; tent++) {
                all += asked[tent];
            }
            return all;
        }

        /** How many rows and columns lie between two CELLS, together. */
        int gapBetween(int one, int other) {
            return Math.abs(rowOf(one) - rowOf(other)) + Math.abs(columnOf(one) - columnOf(other));
        }

        int penceOf(int much, int whose) {
            int all = askedInAll();
            if (all == 0) {
                return 0;
            }
            int left = much;
            int aheadOfIt = 0;
            int lost = much * asked[whose] % all;
            for (int tent = 0; tent < tents; tent++) {
                left -= much * asked[tent] / all;
                int othersLoss = much * asked[tent] % all;
                if (othersLoss > lost || othersLoss == lost && tent < whose) {
                    aheadOfIt++;
                }
            }
            return much * asked[whose] / all + (aheadOfIt < left ? 1 : 0);
        }
    }

    /** All that an IMAGE holds. */
    private static final class Scene {
        static final int NOTES_AT_MOST = 10;

        /** The CAMP as its text told it, and as it is. */
        final World told;
        final World now;
        final int[] noteStep;
        final int[] noteCell;
        int notes;
        int inForce;
        int x;
        boolean made;

        Scene() {
            told = new World();
            now = new World();
            noteStep = new int[NOTES_AT_MOST];
            noteCell = new int[NOTES_AT_MOST];
            inForce = NONE;
        }

        void copyFrom(Scene other) {
            told.copyFrom(other.told);
            now.copyFrom(other.now);
            for (int i = 0; i < NOTES_AT_MOST; i++) {
                noteStep[i] = other.noteStep[i];
                noteCell[i] = other.noteCell[i];
            }
            notes = other.notes;
            inForce = other.inForce;
            x = other.x;
        }

        /** Whether there was room for the NOTE. */
        boolean writeDown(int stepOfAll, int cell) {
            if (notes >= NOTES_AT_MOST) {
                return false;
            }
            noteStep[notes] = stepOfAll;
            noteCell[notes] = cell;
            notes++;
            return true;
        }
    }

    /** The world as it was ahead of each of the last ACTS, in a ring that forgets the oldest. */
    private static final class Acts {
        static final int ACTS_AT_MOST = 20;

        int kept;
        private final World[] earlier;
        private int next;

        Acts() {
            earlier = new World[ACTS_AT_MOST];
            for (int i = 0; i < ACTS_AT_MOST; i++) {
                earlier[i] = new World();
            }
        }

        void forget() {
            kept = 0;
        }

        void keep(World world) {
            earlier[next].copyFrom(world);
            next = (next + 1) % ACTS_AT_MOST;
            kept = Math.min(kept + 1, ACTS_AT_MOST);
        }

        void takeBack(World world) {
            if (kept > 0) {
                next = (next + ACTS_AT_MOST - 1) % ACTS_AT_MOST;
                world.copyFrom(earlier[next]);
                kept--;
            }
        }
    }

    /** Tries the STEPS to come on a world of its own, so that nothing changes by what is asked. */
    private static final class Foresight {
        static final int STEPS_LOOKED_AT = 200;
        static final int STEPS_ALIKE = 5;
        static final int DRAW_DIVISOR = 65536;

        final World trial;
        private final RuleBook rules;
        private final int[] places;
        /** What was found last: which TENT, CELL or STEP, and how often or how much. */
        int which;
        int often;
        /** BITS that the QUESTION had behind the winds, all together. */
        int gathered;
        private long drawn;

        Foresight(RuleBook rules) {
            this.rules = rules;
            trial = new World();
            // the later STEP of a ring may be the last one traced, with the 5 behind it further on
            places = new int[TRACED_STEPS + STEPS_ALIKE + 1];
        }

        World after(Scene scene, int n) {
            trial.copyFrom(scene.now);
            rules.stride(trial, scene.inForce, n);
            return trial;
        }

        int firstAsked(Scene scene, int tent) {
            trial.copyFrom(scene.now);
            for (int i = 0; i < STEPS_LOOKED_AT; i++) {
                rules.stride(trial, scene.inForce, 1);
                if (trial.asked[tent] > scene.now.asked[tent]) {
                    return scene.now.stepNumber + i;
                }
            }
            return NOTHING_SUCH;
        }

        int firstKnowing(Scene scene, int tent) {
            int all = (1 << scene.now.tents) - 1;
            trial.copyFrom(scene.now);
            for (int i = 0; i <= STEPS_LOOKED_AT; i++) {
                if (trial.knows[tent] == all) {
                    return scene.now.stepNumber + i - 1;
                }
                rules.stride(trial, scene.inForce, 1);
            }
            return NOTHING_SUCH;
        }

        void findMostAsked(Scene scene, int n) {
            trial.copyFrom(scene.now);
            rules.stride(trial, scene.inForce, n);
            which = NOTHING_SUCH;
            often = 0;
            for (int tent = 0; tent < trial.tents; tent++) {
                int times = trial.asked[tent] - scene.now.asked[tent];
                if (which == NOTHING_SUCH || times > often) {
                    which = tent;
                    often = times;
                }
            }
        }

        void findHidingCell(Scene scene, int tent, int n) {
            which = NONE;
            often = 0;
            for (int cell = 0; cell < scene.now.cells; cell++) {
                trial.copyFrom(scene.now);
                trial.tentCell[tent] = cell;
                rules.stride(trial, scene.inForce, n);
                int times = trial.asked[tent] - scene.now.asked[tent];
                if (which == NONE || times < often) {
                    which = cell;
                    often = times;
                }
            }
        }

        void findWhomToWake(Scene scene, int n) {
            which = NONE;
            often = NONE;
            for (int tent = NONE; tent < scene.now.tents; tent++) {
                trial.copyFrom(scene.now);
                if (tent != NONE) {
                    trial.asked[tent]++;
                }
                int before = trial.everAsked();
                rules.stride(trial, scene.inForce, n);
                int newly = Integer.bitCount(trial.everAsked() & ~before);
                if (newly > often) {
                    which = tent;
                    often = newly;
                }
            }
        }

        void findRing(Scene scene) {
            trial.copyFrom(scene.now);
            for (int i = 0; i < places.length; i++) {
                places[i] = trial.question;
                rules.stride(trial, scene.inForce, 1);
            }
            which = NOTHING_SUCH;
            often = NOTHING_SUCH;
            for (int from = 0; from < TRACED_STEPS; from++) {
                for (int later = from + 1; later <= TRACED_STEPS; later++) {
                    if (isAlike(from, later)) {
                        which = scene.now.stepNumber + from;
                        often = later - from;
                        return;
                    }
                }
            }
        }

        private boolean isAlike(int from, int later) {
            for (int i = 0; i <= STEPS_ALIKE && later + i < places.length; i++) {
                if (places[from + i] != places[later + i]) {
                    return false;
                }
            }
            return true;
        }

        void blow(Scene scene, int m, int n, int p) {
            drawn = scene.x;
            often = 0;
            gathered = 0;
            int before = scene.now.askedInAll();
            for (int night = 0; night < m; night++) {
                trial.copyFrom(scene.now);
                for (int i = 0; i < n; i++) {
                    drift(p);
                    rules.stride(trial, scene.inForce, 1);
                }
                often += trial.askedInAll() - before;
                gathered += Integer.bitCount(trial.bits);
            }
        }

        private void drift(int p) {
            if (nextDraw() % 100 < p) {
                int next = trial.passable(trial.question, nextDraw() % 4);
                if (next != NONE) {
                    trial.question = next;
                }
            }
        }

        private int nextDraw() {
            drawn = (drawn * 1103515245L + 12345L) % 2147483648L;
            return (int) (drawn / DRAW_DIVISOR);
        }
    }

    /** Finds by which RULES the nights that were told can have been. */
    private static final class Sleuth {
        /** Row 0 is without a RULE, row r + 1 with RULE r. */
        static final int ROWS = RuleBook.RULES_AT_MOST + 1;

        int partingStep;
        int mostAlike;
        private final RuleBook rules;
        private final World trial;
        private final int[][] places;
        private final boolean[] fits;

        Sleuth(RuleBook rules) {
            this.rules = rules;
            trial = new World();
            places = new int[ROWS][TRACED_STEPS + 1];
            fits = new boolean[ROWS];
        }

        void trace(Scene scene) {
            for (int row = 0; row < ROWS; row++) {
                fits[row] = row <= rules.size;
                if (!fits[row]) {
                    continue;
                }
                trial.copyFrom(scene.told);
                for (int i = 0; i <= TRACED_STEPS; i++) {
                    places[row][i] = trial.question;
                    rules.stride(trial, row - 1, 1);
                }
                fits[row] = agrees(scene, row);
            }
        }

        private boolean agrees(Scene scene, int row) {
            for (int i = 0; i < scene.notes; i++) {
                int noted = scene.noteStep[i];
                if (noted < 0 || noted > TRACED_STEPS || places[row][noted] != scene.noteCell[i]) {
                    return false;
                }
            }
            return true;
        }

        int fitting() {
            int found = 0;
            for (int row = 0; row < ROWS; row++) {
                if (fits[row]) {
                    found++;
                }
            }
            return found;
        }

        int firstFitting() {
            for (int row = 0; row < ROWS; row++) {
                if (fits[row]) {
                    return row - 1;
                }
            }
            return NOTHING_SUCH;
        }

        void findParting() {
            partingStep = NOTHING_SUCH;
            mostAlike = NOTHING_SUCH;
            if (fitting() == 0) {
                return;
            }
            for (int i = 0; i <= TRACED_STEPS; i++) {
                int alike = greatestCrowd(i);
                if (partingStep == NOTHING_SUCH || alike < mostAlike) {
                    partingStep = i;
                    mostAlike = alike;
                }
            }
        }

        /** How many of the fitting ones are at most together on one CELL at the begin of a STEP. */
        private int greatestCrowd(int stepOfAll) {
            int greatest = 0;
            for (int row = 0; row < ROWS; row++) {
                int crowd = 0;
                for (int other = 0; other < ROWS; other++) {
                    if (fits[other] && places[other][stepOfAll] == places[row][stepOfAll]) {
                        crowd++;
                    }
                }
                if (fits[row] && crowd > greatest) {
                    greatest = crowd;
                }
            }
            return greatest;
        }
    }

    /** The QUESTION kept from a TENT by BUSHES, and the game of the two. */
    private static final class Siege {
        static final int BUSHES_AT_MOST = 3;

        /** How many BUSHES cut the TENT off, -2 if none do, and the CELLS of the first set. */
        int fewest;
        final int[] cutCells;
        /** How the game ends, and the QUESTION's first CELL. */
        int gap;
        int firstCell;
        private final World ground;
        private final long[] layers;

        Siege() {
            cutCells = new int[BUSHES_AT_MOST];
            ground = new World();
            layers = new long[CELLS_AT_MOST + 1];
        }

        void findCut(World world, int tent) {
            ground.copyFrom(world);
            int target = world.tentCell[tent];
            fewest = NOTHING_SUCH;
            for (int n = 0; n <= BUSHES_AT_MOST && fewest == NOTHING_SUCH; n++) {
                if (isCutBy(this, target, n)) {
                    fewest = n;
                }
            }
            int found = 0;
            // a CELL that is in a smallest set is in the first one, if no lesser CELL is in one
            for (int cell = 0; cell < world.cells && found < fewest; cell++) {
                if (cell == world.question || cell == target || !world.isFree(cell)) {
                    continue;
                }
                ground.bushes |= 1L << cell;
                if (isCutBy(this, target, fewest - found - 1)) {
                    cutCells[found] = cell;
                    found++;
                } else {
                    ground.bushes &= ~(1L << cell);
                }
            }
        }

        /** Whether n BUSHES more (3 at most) cut the target off: one of them is on any WAY to it. */
        private static boolean isCutBy(Siege siege, int target, int n) {
            World ground = siege.ground;
            if (ground.distance(ground.question, 1L << target) == NONE) {
                return true;
            }
            if (n <= 0 || n > BUSHES_AT_MOST) {
                return false;
            }
            long between = siege.cellsBetween(target);
            for (int cell = 0; cell < ground.cells; cell++) {
                if ((between >>> cell & 1) != 0) {
                    ground.bushes |= 1L << cell;
                    boolean isCut = isCutBy(siege, target, n - 1);
                    ground.bushes &= ~(1L << cell);
                    if (isCut) {
                        return true;
                    }
                }
            }
            return false;
        }

        /** The CELLS of some WAY to the target, without its ends. */
        private long cellsBetween(int target) {
            long end = 1L << target;
            long reached = 1L << ground.question;
            int far = 0;
            while ((reached & end) == 0 && far < CELLS_AT_MOST) {
                layers[far] = reached;
                reached |= ground.spread(reached) & ~ground.bushes;
                far++;
            }
            long between = 0;
            long last = end;
            for (int layer = far - 1; layer > 0; layer--) {
                long candidates = ground.spread(last) & layers[layer];
                last = candidates & -candidates;
                between |= last;
            }
            return between;
        }

        void play(World world, int tent, int turns) {
            gap = NONE;
            for (int i = 0; i < UPWARDS_OR_STAY.length; i++) {
                int next = world.passable(world.question, UPWARDS_OR_STAY[i]);
                if (next == NONE) {
                    continue;
                }
                int end = ended(world, next, world.tentCell[tent], turns - 1, false);
                if (gap == NONE || end < gap) {
                    gap = end;
                    firstCell = next;
                }
            }
        }

        /** How far apart they are behind so many turns more (4 at most), if both do their best. */
        private static int ended(World world, int asker, int asked, int turns, boolean asks) {
            if (turns <= 0 || turns > TURNS_AT_MOST) {
                return world.gapBetween(asker, asked);
            }
            int best = NONE;
            for (int i = 0; i < UPWARDS_OR_STAY.length; i++) {
                int wayOut = UPWARDS_OR_STAY[i];
                int next = asks ? world.passable(asker, wayOut) : world.beside(asked, wayOut);
                if (next == NONE) {
                    continue;
                }
                int end = asks ? ended(world, next, asked, turns - 1, false)
                        : ended(world, asker, next, turns - 1, true);
                if (best == NONE || asks && end < best || !asks && end > best) {
                    best = end;
                }
            }
            return best;
        }
    }
}
