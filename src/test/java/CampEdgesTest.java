import java.util.function.Consumer;

/** The edges of the texts of camps and of their faults, and promise 4. */
public final class CampEdgesTest {
    private static final Edges EDGES = new Edges();

    public static void main(String[] args) {
        longestText();
        clauses();
        sides();
        cells();
        campOnce();
        campFirst();
        tents();
        nerves();
        bushes();
        severalOnOneCell();
        asItBegins();
        numbers();
        blanks();
        wrongBytes();
        theEnd();
        firstFault();
        leastOfOnePlace();
        tapeIsEmpty();
        inPlaceOfTheOther();
        faultLeavesAll();
        EDGES.close();
    }

    private static void camp(String text, int want) {
        EDGES.is(text, Tape.camp(new AskedCamp(), text), want);
    }

    private static void longestText() {
        EDGES.sentence("A CAMP is a text of at most 400 bytes");
        String text = Tape.padded("camp 6 0;tent 1 1", 392) + ";bush 35";
        AskedCamp x = Edges.camp(text);
        EDGES.is("400 bytes, all told", x.count(1) * 100 + x.count(9) * 10 + x.cell(35, 0), 111);
        x = Edges.camp(text.substring(0, 399));
        EDGES.is("399 bytes", x.count(9) * 100 + x.cell(35, 0) * 10 + x.cell(3, 0), 101);
        camp(Tape.padded("camp 6 0", 399) + ";", Tape.fault(400, 0));
        camp(Tape.padded("camp 6 0", 399) + "!", Tape.fault(399, 0));
    }

    private static void clauses() {
        EDGES.sentence("CLAUSE { ; CLAUSE }, 40 at most");
        camp("", Tape.fault(0, 0));
        camp("camp 2 0", 0);
        camp("camp 2 0;tent 0 0", 1);
        AskedCamp x = Edges.camp("camp 6 0" + ";bush 1".repeat(38) + ";bush 2");
        EDGES.is("the 40th is told", x.cell(2, 0), 1);
        camp("camp 6 0" + ";bush 1".repeat(39) + ";bush 2", Tape.fault(8 + 7 * 39 + 1, 4));
        camp("camp 6 0" + ";bush 1".repeat(39) + "; tent 2 2", Tape.fault(8 + 7 * 39 + 2, 4));
        camp("camp 6 0" + ";bush 1".repeat(39) + ";camp 2 0", Tape.fault(8 + 7 * 39 + 1, 4));
        camp("camp 6 0" + ";bush 1".repeat(39) + ";", Tape.fault(8 + 7 * 39 + 1, 0));
        camp("camp 2 0;", Tape.fault(9, 0));
        camp(";camp 2 0", Tape.fault(0, 0));
        camp("camp 2 0;;bush 1", Tape.fault(9, 0));
        camp("camp 2 0 bush 1", Tape.fault(9, 0));
    }

    private static void sides() {
        EDGES.sentence("SIDE 2 to 6");
        for (int side = 0; side <= 10; side++) {
            boolean told = side >= 2 && side <= 6;
            camp("camp " + side + " 0", told ? 0 : Tape.fault(5, 1));
            EDGES.is("its count", Edges.camp("camp " + side + " 0").count(0), told ? side : 0);
        }
        camp("camp 99999 0", Tape.fault(5, 1));
    }

    private static void cells() {
        EDGES.sentence("the CELL, 0 to SIDE * SIDE - 1, where the QUESTION is");
        for (int side = 2; side <= 6; side++) {
            int all = side * side;
            for (int cell : new int[] {0, 1, all - 1}) {
                EDGES.is("where", Edges.camp("camp " + side + " " + cell).count(5), cell);
            }
            for (int cell : new int[] {all, all + 1, 36, 99, 99999}) {
                camp("camp " + side + " " + cell, Tape.fault(7, 1));
            }
        }
    }

    private static void campOnce() {
        EDGES.sentence("once; FAULT 4: a second camp (at its first byte)");
        camp("camp 2 0;camp 2 0", Tape.fault(9, 4));
        camp("camp 2 0; bush 1 ; camp 2 0", Tape.fault(19, 4));
        camp("camp 2 0;camp", Tape.fault(9, 4));
    }

    private static void campFirst() {
        EDGES.sentence("the first CLAUSE; FAULT 4: another CLAUSE ahead of it (at its first byte)");
        camp("tent 0 0;camp 2 0", Tape.fault(0, 4));
        camp("  bush 0;camp 2 0", Tape.fault(2, 4));
        camp("tent 0 0", Tape.fault(0, 4));
        camp("bush", Tape.fault(0, 4));
    }

    private static void tents() {
        EDGES.sentence("TENTS 0 to 5, in the order told; FAULT 4: a seventh TENT (at its first byte)");
        for (int tents = 0; tents <= 6; tents++) {
            camp("camp 3 0" + ";tent 8 1".repeat(tents), tents);
            EDGES.is("their count", Edges.camp("camp 3 0" + ";tent 8 1".repeat(tents)).count(1), tents);
        }
        camp("camp 3 0" + ";tent 8 1".repeat(7), Tape.fault(8 + 9 * 6 + 1, 4));
        camp("camp 3 0" + ";tent 8 1".repeat(6) + ";bush 1; tent", Tape.fault(8 + 9 * 6 + 9, 4));
        AskedCamp x = Edges.camp("camp 3 0;tent 8 1;tent 7 2;tent 6 3;tent 5 4;tent 4 5;tent 3 6");
        for (int tent = 0; tent < 6; tent++) {
            EDGES.is("the CELL of TENT " + tent, x.tent(tent, 0), 8 - tent);
            EDGES.is("the NERVE of TENT " + tent, x.tent(tent, 1), 1 + tent);
        }
        EDGES.is("no seventh", x.tent(6, 0), -1);
    }

    private static void nerves() {
        EDGES.sentence("tent NUMBER NUMBER (a CELL; NERVE 0 to 20)");
        for (int nerve = 0; nerve <= 23; nerve++) {
            AskedCamp x = new AskedCamp();
            int answer = Tape.camp(x, "camp 2 0;tent 1 " + nerve);
            EDGES.is("NERVE " + nerve, answer, nerve <= 20 ? 1 : Tape.fault(16, 1));
            EDGES.is("NERVE " + nerve + ", told", x.tent(0, 1), nerve <= 20 ? nerve : -1);
        }
        for (int side = 2; side <= 6; side++) {
            int last = side * side - 1;
            EDGES.is("the first CELL", Edges.camp("camp " + side + " 1;tent 0 5").tent(0, 0), 0);
            EDGES.is("the last CELL", Edges.camp("camp " + side + " 0;tent " + last + " 5").tent(0, 0), last);
            camp("camp " + side + " 0;tent " + (last + 1) + " 5", Tape.fault(14, 1));
        }
        camp("camp 2 0;tent 3", Tape.fault(15, 0));
        camp("camp 2 0;tent;", Tape.fault(13, 0));
        camp("camp 2 0;tent 3 5 5", Tape.fault(18, 0));
    }

    private static void bushes() {
        EDGES.sentence("bush NUMBER (a CELL; told already: nothing new)");
        for (int side = 2; side <= 6; side++) {
            int last = side * side - 1;
            AskedCamp x = Edges.camp("camp " + side + " 1;bush 0;bush " + last + ";bush 0;bush " + last);
            EDGES.is("two of four", x.count(9), 2);
            EDGES.is("the first CELL", x.cell(0, 0), 1);
            EDGES.is("the last CELL", x.cell(last, 0), 1);
            camp("camp " + side + " 0;bush " + (last + 1), Tape.fault(14, 1));
        }
        StringBuilder all = new StringBuilder("camp 6 0");
        for (int cell = 0; cell < 36; cell++) {
            all.append(";bush ").append(cell);
        }
        EDGES.is("on all CELLS", Edges.camp(all.toString()).count(9), 36);
        EDGES.is("none", Edges.camp("camp 6 0").count(9), 0);
        camp("camp 2 0;bush", Tape.fault(13, 0));
        camp("camp 2 0;bush 1 1", Tape.fault(16, 0));
    }

    private static void severalOnOneCell() {
        EDGES.sentence("several may be on one CELL, and on one with a BUSH, and so may the QUESTION");
        AskedCamp x = Edges.camp("camp 2 3" + ";tent 3 0".repeat(6) + ";bush 3");
        EDGES.is("all TENTS there", x.cell(3, 2), 63);
        EDGES.is("the BUSH there", x.cell(3, 0), 1);
        EDGES.is("the QUESTION there", x.count(5), 3);
        EDGES.is("it asks them", x.step(), 3);
        EDGES.is("all of them", x.count(7), 63);
    }

    private static void asItBegins() {
        EDGES.sentence("It is STEP 0; nobody was asked; each TENT KNOWS its own BIT (of its number), the QUESTION has none.");
        AskedCamp x = Edges.camp("camp 3 0" + ";tent 0 1".repeat(6));
        EDGES.is("STEP, BITS, who was asked and how often", x.count(4) + x.count(6) + x.count(7) + x.count(8), 0);
        for (int tent = 0; tent < 6; tent++) {
            EDGES.is("BIT of TENT " + tent, x.tent(tent, 3), 1 << tent);
            EDGES.is("asked", x.tent(tent, 2), 0);
        }
        for (int cell = 0; cell < 9; cell++) {
            EDGES.is("come to", x.cell(cell, 1), 0);
        }
    }

    private static void numbers() {
        EDGES.sentence("NUMBER (1 to 5 digits, as far as digits go on); FAULT 1: a NUMBER of more digits");
        camp("camp 2 ", Tape.fault(7, 0));
        camp("camp 00002 00003", 0);
        camp("camp 000002 0", Tape.fault(5, 1));
        camp("camp 2 000000", Tape.fault(7, 1));
        camp("camp 2 4294967296", Tape.fault(7, 1));
        camp("camp 2 18446744073709551616", Tape.fault(7, 1));
        camp("camp 23", Tape.fault(5, 1));
        camp("camp 2 3x", Tape.fault(8, 0));
        camp("camp 2 -1", Tape.fault(7, 0));
        camp("camp 2 /", Tape.fault(7, 0));
        camp("camp 2 :", Tape.fault(7, 0));
    }

    private static void blanks() {
        EDGES.sentence("Blanks (32) stand between as one likes.");
        camp("camp2 0;tent0 0;bush0", 1);
        camp("   camp   2   0   ;   tent   0   0   ;   bush   0   ", 1);
        camp("camp 2\t0", Tape.fault(6, 0));
        camp("camp 2 0\n", Tape.fault(8, 0));
        camp("camp 2 0\u00a0", Tape.fault(8, 0));
        camp("ca mp 2 0", Tape.fault(0, 0));
        camp("camp 2 0;te nt 0 0", Tape.fault(9, 0));
    }

    private static void wrongBytes() {
        EDGES.sentence("0 a byte or WORD that can't stand there");
        for (int sign = 0; sign < 256; sign++) {
            boolean letter = sign >= 'a' && sign <= 'z';
            boolean digit = sign >= '0' && sign <= '9';
            if (sign != ' ' && sign != ';' && !digit) {
                camp("camp 2 0" + (char) sign, Tape.fault(8, 0));
            }
            if (sign != ' ' && !digit) {
                camp("camp" + (char) sign + "2 0", Tape.fault(letter ? 0 : 4, 0));
            }
        }
        camp("go 1", Tape.fault(0, 0));
        camp("damp 2 0", Tape.fault(0, 0));
        camp("camp 2 0;rent 0 0", Tape.fault(9, 0));
        camp("camp 2 0;push 0", Tape.fault(9, 0));
        camp("camp 2 0;camps", Tape.fault(9, 0));
        camp("camp 2 0;ten 0 0", Tape.fault(9, 0));
        camp("camp 2 0;tents 0 0", Tape.fault(9, 0));
        camp("camp 2 0;bushes 0", Tape.fault(9, 0));
        camp("camp 2 0;`", Tape.fault(9, 0));
        camp("camp 2 0;{", Tape.fault(9, 0));
    }

    private static void theEnd() {
        EDGES.sentence("0 or the end (behind the last byte)");
        String text = "camp 2 0;tent 1 1;bush 1";
        for (int size = 0; size <= text.length(); size++) {
            boolean whole = size == 8 || size == 17 || size == 24;
            String begin = text.substring(0, size);
            int word = begin.endsWith("c") || begin.endsWith("ca") || begin.endsWith("cam") ? 0
                    : begin.matches(".*;[a-z]{1,3}") ? begin.lastIndexOf(';') + 1 : size;
            camp(begin, whole ? size == 8 ? 0 : 1 : Tape.fault(word, 0));
        }
        camp("   ", Tape.fault(3, 0));
        camp("camp 2   ", Tape.fault(9, 0));
    }

    private static void firstFault() {
        EDGES.sentence("FAULTS, the first along the text, 1 + 8 * its place");
        camp("camp 7 99;x", Tape.fault(5, 1));
        camp("camp 2 99;x", Tape.fault(7, 1));
        camp("camp 2 0;tent 4 21", Tape.fault(14, 1));
        camp("camp 2 0;tent 3 21!", Tape.fault(16, 1));
        camp("tent 99 99!", Tape.fault(0, 4));
        camp("camp 2 0" + ";tent 1 1".repeat(6) + ";bush 4;tent 1 1", Tape.fault(8 + 54 + 6, 1));
    }

    private static void leastOfOnePlace() {
        EDGES.sentence("Of one place the least.");
        camp("tree 1", Tape.fault(0, 0));
        camp("camp 6 0" + ";bush 1".repeat(39) + ";tree 2", Tape.fault(8 + 7 * 39 + 1, 0));
        camp("camp 6 0" + ";bush 1".repeat(39) + ";2", Tape.fault(8 + 7 * 39 + 1, 0));
        camp("camp 6 0" + ";tent 1 1".repeat(6) + ";tents 1 1", Tape.fault(8 + 54 + 1, 0));
        camp("camp 2 0;campo", Tape.fault(9, 0));
    }

    private static void tapeIsEmpty() {
        EDGES.sentence("The TAPE, which is empty then");
        AskedCamp x = Edges.camp("camp 2 0");
        EDGES.is("behind a CAMP", x.count(13), 0);
        Tape.camp(x, "camp 2 9");
        EDGES.is("behind a FAULT", x.count(13), 0);
        Tape.camp(x, Tape.padded("camp 2 0", 400));
        EDGES.is("behind a full one", x.count(13), 0);
        EDGES.is("there is none again", x.camp(), Tape.fault(0, 0));
    }

    private static void inPlaceOfTheOther() {
        EDGES.sentence("is the CAMP in place of the one there was (no NOTES, nothing to be UNDONE; the RULE IN FORCE and x stay)");
        AskedCamp x = Edges.made(Looks::rich);
        int[] was = {x.count(2), x.count(3), x.count(12)};
        EDGES.is("camp()", x.camp(), 1);
        int[] want = {2, 1, was[0], was[1], 0, 1, 0, 0, 0, 1, 0, 0, was[2], 0};
        for (int what = 0; what < want.length; what++) {
            EDGES.is("count(" + what + ")", x.count(what), want[what]);
        }
        EDGES.is("nothing to be UNDONE", x.undo(), -1);
        EDGES.is("all RULES and none are so, without NOTES", x.ruled(0), 4);
        EDGES.is("IMAGES stay", x.back(0), 1);
        AskedCamp full = Edges.camp("camp 2 0;tent 3 1");
        for (int i = 0; i < 20; i++) {
            full.bush(1);
        }
        for (int i = 0; i < 10; i++) {
            full.note(0, 0);
        }
        Tape.camp(full, "camp 2 0");
        EDGES.is("20 ACTS are forgotten", full.undo(), -1);
        EDGES.is("10 NOTES are forgotten", full.note(1, 1), 1);
        EDGES.is("TENTS are forgotten", full.count(1) + full.cell(3, 2), 0);
        AskedCamp walked = Edges.camp("camp 2 0", "go 1 if column = 0");
        for (int i = 0; i < 5; i++) {
            walked.step();
        }
        walked.ring(0);
        Tape.camp(walked, "camp 3 0");
        for (int cell = 0; cell < 9; cell++) {
            EDGES.is("it never came to " + cell, walked.cell(cell, 1), 0);
        }
    }

    private static void faultLeavesAll() {
        EDGES.sentence("-2 - its FAULT, and all stays.");
        String[] texts = {"", "camp 7 0", "camp 2 0;tent 1 1;tent 1", "tent 1 1", "camp 2 0;camp 2 0",
            "camp 2 0" + ";tent 1 1".repeat(7), "camp 3 3;bush 1;tent 2 2!"};
        int[] faults = {Tape.fault(0, 0), Tape.fault(5, 1), Tape.fault(24, 0), Tape.fault(0, 4), Tape.fault(9, 4),
            Tape.fault(63, 4), Tape.fault(24, 0)};
        for (int i = 0; i < texts.length; i++) {
            String text = texts[i];
            EDGES.is(text, Tape.camp(Edges.made(Looks::rich), text), faults[i]);
            Consumer<AskedCamp> told = x -> Tape.camp(x, text);
            Consumer<AskedCamp> rich = Looks::rich;
            EDGES.alike("camp() of " + text, rich.andThen(told), rich.andThen(x -> x.end(0)));
        }
    }
}
