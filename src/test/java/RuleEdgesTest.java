import java.util.function.Consumer;

/** The edges of the texts of rules and of their faults, and promise 5. */
public final class RuleEdgesTest {
    private static final Edges EDGES = new Edges();

    public static void main(String[] args) {
        numbersOfRules();
        sixAreAll();
        faultLeavesAll();
        tapeIsEmpty();
        longestText();
        clauses();
        clauseWithoutTest();
        signs();
        numbers();
        wordsGoOn();
        blanks();
        wrongBytes();
        theEnd();
        deepBrackets();
        deepNots();
        deepBoth();
        besideOneAnother();
        deepAmongOthers();
        values();
        valuesOfAllClauses();
        valuesOfEachRule();
        facts();
        firstFault();
        leastOfOnePlace();
        nothingOfAFaultyOne();
        EDGES.close();
    }

    private static void rule(String text, int want) {
        EDGES.is(text, Tape.rule(new AskedCamp(), text), want);
    }

    private static void numbersOfRules() {
        EDGES.sentence("RULES 0 to 5: its number");
        AskedCamp x = new AskedCamp();
        for (int i = 0; i < 6; i++) {
            EDGES.is("RULES", x.count(2), i);
            EDGES.is("its number", Tape.rule(x, "go " + i), i);
        }
        EDGES.is("RULES", x.count(2), 6);
        EDGES.is("the first", x.force(0), -1);
        EDGES.is("the last", x.force(5), 0);
        EDGES.is("none behind it", x.force(6), -2);
    }

    private static void sixAreAll() {
        EDGES.sentence("NONE, and nothing happens: there are 6.");
        EDGES.is("a sixth", Tape.rule(Edges.made(Looks.withRules(5)), "go 2"), 5);
        for (String text : new String[] {"go 2", "go", "camp 2 1;tent 3 2", ""}) {
            Consumer<AskedCamp> setup = Looks.withRules(6).andThen(x -> Tape.put(x, text));
            EDGES.leaves("rule() of " + text, setup, x -> x.rule(), -1);
            AskedCamp x = Edges.made(setup);
            x.rule();
            EDGES.is("the TAPE stays", x.count(13), text.length());
        }
    }

    private static void faultLeavesAll() {
        EDGES.sentence("its number; -2 - its FAULT");
        String[] texts = {"", "go", "go 1;go 100000", "go 1;og 1", "go 1" + ";go 1".repeat(12)};
        int[] faults = {Tape.fault(0, 0), Tape.fault(2, 0), Tape.fault(8, 1), Tape.fault(5, 0), Tape.fault(60, 4)};
        for (int i = 0; i < texts.length; i++) {
            String text = texts[i];
            EDGES.is(text, Tape.rule(Edges.made(Looks::rich), text), faults[i]);
            Consumer<AskedCamp> rich = Looks::rich;
            EDGES.alike("rule() of " + text, rich.andThen(x -> Tape.rule(x, text)), rich.andThen(x -> x.end(0)));
            AskedCamp x = Edges.made(rich);
            Tape.rule(x, text);
            EDGES.is("no number was taken", Tape.rule(x, "go 1"), 3);
        }
    }

    private static void tapeIsEmpty() {
        EDGES.sentence("The TAPE, which is empty then, is a RULE");
        AskedCamp x = new AskedCamp();
        Tape.rule(x, "go 1");
        EDGES.is("behind a RULE", x.count(13), 0);
        Tape.rule(x, "go");
        EDGES.is("behind a FAULT", x.count(13), 0);
        Tape.rule(x, Tape.padded("go 1", 400));
        EDGES.is("behind a full one", x.count(13), 0);
        EDGES.is("there is none again", x.rule(), Tape.fault(0, 0));
    }

    private static void longestText() {
        EDGES.sentence("texts likewise (of at most 400 bytes)");
        String text = Tape.padded("go 1 if cell = 99;", 395) + "go 12";
        AskedCamp x = Edges.camp("camp 2 0", text);
        EDGES.is("400 bytes", x.step(), 1);
        rule(Tape.padded("go 1 if", 400), Tape.fault(400, 0));
        rule(Tape.padded("go 1", 399) + ";", Tape.fault(400, 0));
        rule(Tape.padded("go 1", 399) + "!", Tape.fault(399, 0));
        rule(Tape.padded("go", 399) + "1", 0);
    }

    private static void clauses() {
        EDGES.sentence("12 CLAUSES at most; FAULT 4: one CLAUSE too many (at its first byte)");
        rule("", Tape.fault(0, 0));
        rule("go 1", 0);
        AskedCamp x = Edges.camp("camp 2 0", "go 0 if cell=9" + ";go 0 if cell=9".repeat(10) + ";go cell");
        EDGES.is("the 12th counts", x.step(), 2);
        rule("go 1" + ";go 1".repeat(11), 0);
        rule("go 1" + ";go 1".repeat(12), Tape.fault(60, 4));
        rule("go 1" + ";go 1".repeat(11) + ";  go 1", Tape.fault(62, 4));
        rule("go 1" + ";go 1".repeat(11) + ";go", Tape.fault(60, 4));
        rule("go 1" + ";go 1".repeat(11) + ";", Tape.fault(60, 0));
        rule(";go 1", Tape.fault(0, 0));
        rule("go 1;;go 1", Tape.fault(5, 0));
        rule("go 1 go 1", Tape.fault(5, 0));
    }

    private static void clauseWithoutTest() {
        EDGES.sentence("go SUM [ if TEST ]");
        rule("go 1 if", Tape.fault(7, 0));
        rule("go if 1 = 1", Tape.fault(3, 0));
        rule("go 1 if if 1 = 1", Tape.fault(8, 0));
        rule("go 1 if 1 = 1 if 1 = 1", Tape.fault(14, 0));
        rule("go 1 [ if 1 = 1 ]", Tape.fault(5, 0));
        rule("if 1 = 1", Tape.fault(0, 0));
        rule("go 1 and 1 = 1", Tape.fault(5, 0));
        rule("go 1 if 1", Tape.fault(9, 0));
        rule("go 1 if 1 = 1 = 1", Tape.fault(14, 0));
        rule("go 1 if 1 = 1 and", Tape.fault(17, 0));
        rule("go 1 if 1 = 1 or", Tape.fault(16, 0));
        rule("go 1 if 1 = 1 not 1 = 1", Tape.fault(14, 0));
        rule("go 1 if and 1 = 1", Tape.fault(8, 0));
        rule("go 1 if [ ]", Tape.fault(10, 0));
        rule("go 1 if [ 1 = 1", Tape.fault(15, 0));
        rule("go 1 if 1 = 1 ]", Tape.fault(14, 0));
        rule("go 1 if [ 1 = 1 ] ]", Tape.fault(18, 0));
        rule("go 1 if [ 1 + 1 ] = 1", Tape.fault(16, 0));
        rule("go 1 if [ 1 = 1 ; go 1", Tape.fault(16, 0));
    }

    private static void signs() {
        EDGES.sentence("SIGN one of < <= = >= >");
        for (String sign : new String[] {"<", "<=", "=", ">=", ">"}) {
            rule("go 1 if 1" + sign + "1", 0);
        }
        rule("go 1 if 1 < = 1", Tape.fault(12, 0));
        rule("go 1 if 1 > = 1", Tape.fault(12, 0));
        rule("go 1 if 1 == 1", Tape.fault(11, 0));
        rule("go 1 if 1 =< 1", Tape.fault(11, 0));
        rule("go 1 if 1 => 1", Tape.fault(11, 0));
        rule("go 1 if 1 <> 1", Tape.fault(11, 0));
        rule("go 1 if 1 <== 1", Tape.fault(12, 0));
        rule("go 1 if 1 ! 1", Tape.fault(10, 0));
        rule("go 1 if 1 1", Tape.fault(10, 0));
        rule("go 1 if cell cell = 1", Tape.fault(13, 0));
        rule("go 1 if < 1", Tape.fault(8, 0));
        rule("go 1 if 1 <", Tape.fault(11, 0));
        rule("go 1 if 1 <=", Tape.fault(12, 0));
        rule("go +", Tape.fault(3, 0));
        rule("go 1 +", Tape.fault(6, 0));
        rule("go 1 * / 1", Tape.fault(7, 0));
        rule("go -1", Tape.fault(3, 0));
    }

    private static void numbers() {
        EDGES.sentence("NUMBER (1 to 5 digits, as far as digits go on); FAULT 1: a NUMBER of more digits");
        for (String number : new String[] {"0", "1", "9", "99999", "00000", "10000"}) {
            rule("go " + number, 0);
        }
        for (String number : new String[] {"000000", "100000", "999999", "4294967296", "18446744073709551616"}) {
            rule("go " + number, Tape.fault(3, 1));
            rule("go 1+" + number, Tape.fault(5, 1));
            rule("go 1 if " + number + "=1", Tape.fault(8, 1));
            rule("go 1 if 1=" + number, Tape.fault(10, 1));
        }
        EDGES.is("five digits are one NUMBER", Edges.camp("camp 2 0", "go 1 if 99999 = 99998 + 1").step(), 1);
        EDGES.is("noughts ahead count for nothing", Edges.camp("camp 2 0", "go 1 if 00012 = 12").step(), 1);
    }

    private static void wordsGoOn() {
        EDGES.sentence("WORDS (small letters, as far as these go on)");
        String[] words = {"cell", "row", "column", "tents", "nerve", "been", "near", "bushes", "bits", "asked", "step"};
        for (String word : words) {
            rule("go " + word, 0);
            rule("go 1+" + word + "*1", 0);
            rule("go " + word + "x", Tape.fault(3, 0));
            rule("go x" + word, Tape.fault(3, 0));
            rule("go z" + word.substring(1), Tape.fault(3, 0));
            rule("go " + word.substring(1), Tape.fault(3, 0));
            rule("go " + word.substring(0, word.length() - 1), Tape.fault(3, 0));
            rule("go " + word + "X", Tape.fault(3 + word.length(), 0));
            rule("go " + word + "1", Tape.fault(3 + word.length(), 0));
            rule("go " + word + " " + word, Tape.fault(4 + word.length(), 0));
        }
        rule("gocell", Tape.fault(0, 0));
        rule("to 1", Tape.fault(0, 0));
        rule("go 1 of 1 = 1", Tape.fault(5, 0));
        rule("go 1 if hot 1 = 1", Tape.fault(8, 0));
        rule("go 1 if 1 = 1 end 1 = 1", Tape.fault(14, 0));
        rule("go 1 if 1 = 1 ar 1 = 1", Tape.fault(14, 0));
        rule("go1if1=1and1=1or1=1;go2", 0);
        rule("go 1 if notcell = 1", Tape.fault(8, 0));
        rule("go 1 if 1 = cellor 1 = 1", Tape.fault(12, 0));
        rule("go 1 iff 1 = 1", Tape.fault(5, 0));
        rule("go not", Tape.fault(3, 0));
        rule("go or", Tape.fault(3, 0));
    }

    private static void blanks() {
        EDGES.sentence("Blanks (32) stand between as one likes.");
        rule("go1if1<=1;go1", 0);
        rule("   go   1   +   1   if   [   not   1   <=   1   ]   ;   go   1   ", 0);
        rule("go\t1", Tape.fault(2, 0));
        rule("go 1\n", Tape.fault(4, 0));
        rule("go 1\u00a0", Tape.fault(4, 0));
        rule("g o 1", Tape.fault(0, 0));
        rule("go ce ll", Tape.fault(3, 0));
        rule("go 1 0", Tape.fault(5, 0));
    }

    private static void wrongBytes() {
        EDGES.sentence("0 a byte or WORD that can't stand there");
        for (int sign = 0; sign < 256; sign++) {
            boolean letter = sign >= 'a' && sign <= 'z';
            boolean digit = sign >= '0' && sign <= '9';
            if (" ;+-*/%".indexOf(sign) < 0 && !digit) {
                rule("go 1" + (char) sign, Tape.fault(4, 0));
            }
            if (sign != ' ' && !digit) {
                rule("go" + (char) sign + "1", Tape.fault(letter ? 0 : 2, 0));
            }
            if (" ;+-*/%]".indexOf(sign) < 0 && !digit) {
                rule("go 1 if [1=1" + (char) sign, Tape.fault(12, 0));
            }
            if (" +-*/%<=>".indexOf(sign) < 0 && !digit) {
                rule("go 1 if 1" + (char) sign, Tape.fault(9, 0));
            }
        }
    }

    private static void theEnd() {
        EDGES.sentence("0 or the end (behind the last byte)");
        rule("", Tape.fault(0, 0));
        rule("   ", Tape.fault(3, 0));
        rule("go", Tape.fault(2, 0));
        rule("go ", Tape.fault(3, 0));
        rule("go 1;", Tape.fault(5, 0));
        rule("go 1; ", Tape.fault(6, 0));
        rule("go 1+", Tape.fault(5, 0));
        rule("go 1 if ", Tape.fault(8, 0));
        rule("go 1 if not", Tape.fault(11, 0));
        rule("go 1 if [", Tape.fault(9, 0));
        rule("go 1 if 1 ", Tape.fault(10, 0));
        rule("go 1 if 1=", Tape.fault(10, 0));
        rule("go 1 if [1=1 ", Tape.fault(13, 0));
        rule("go 1 if 1=1 and ", Tape.fault(16, 0));
    }

    private static void deepBrackets() {
        EDGES.sentence("[ lie within one another 10 deep at most; FAULT 2: too deep (at the sign that opens)");
        rule("go 1 if " + "[".repeat(10) + "1=1" + "]".repeat(10), 0);
        rule("go 1 if " + "[".repeat(11) + "1=1" + "]".repeat(11), Tape.fault(18, 2));
        rule("go 1 if " + "[".repeat(10) + "  [", Tape.fault(20, 2));
        rule("go 1 if " + "[".repeat(12), Tape.fault(18, 2));
        rule("go 1 if " + "[".repeat(10), Tape.fault(18, 0));
        rule("go 1 if " + "[".repeat(10) + "1=1" + "]".repeat(9), Tape.fault(30, 0));
        rule("go 1 if " + "[".repeat(10) + "1=1" + "]".repeat(11), Tape.fault(31, 0));
        EDGES.is("10 deep it holds", Edges.camp("camp 2 0", "go 1 if " + "[".repeat(10) + "1=1" + "]".repeat(10)).step(), 1);
    }

    private static void deepNots() {
        EDGES.sentence("not lie within one another 10 deep at most; FAULT 2: too deep (at the word not)");
        rule("go 1 if " + "not ".repeat(10) + "1=1", 0);
        rule("go 1 if " + "not ".repeat(11) + "1=1", Tape.fault(48, 2));
        rule("go 1 if " + "not ".repeat(10) + "  not", Tape.fault(50, 2));
        rule("go 1 if " + "not ".repeat(10), Tape.fault(48, 0));
        EDGES.is("10 deep it holds", Edges.camp("camp 2 0", "go 1 if " + "not ".repeat(10) + "1=1").step(), 1);
        EDGES.is("9 deep it does not", Edges.camp("camp 2 0", "go 1 if " + "not ".repeat(9) + "1=1").step(), 0);
    }

    private static void deepBoth() {
        EDGES.sentence("[ and not lie within one another 10 deep at most");
        rule("go 1 if " + "not[".repeat(5) + "1=1" + "]".repeat(5), 0);
        rule("go 1 if " + "not[".repeat(5) + "not 1=1" + "]".repeat(5), Tape.fault(28, 2));
        rule("go 1 if " + "not[".repeat(5) + "[1=1]" + "]".repeat(5), Tape.fault(28, 2));
        rule("go 1 if not " + "[".repeat(9) + "1=1" + "]".repeat(9), 0);
        rule("go 1 if not " + "[".repeat(10) + "1=1" + "]".repeat(10), Tape.fault(21, 2));
        rule("go 1 if " + "[".repeat(9) + "not 1=1" + "]".repeat(9), 0);
        rule("go 1 if " + "[".repeat(9) + "not not 1=1" + "]".repeat(9), Tape.fault(21, 2));
        rule("go 1 if " + "[".repeat(9) + "not [1=1]" + "]".repeat(9), Tape.fault(21, 2));
        String mixed = "go 1 if " + "not[".repeat(5) + "1=1" + "]".repeat(5);
        EDGES.is("five not: it does not hold", Edges.camp("camp 2 0", mixed).step(), 0);
    }

    private static void besideOneAnother() {
        EDGES.sentence("lie within one another (those that are closed count no more)");
        rule("go 1 if [1=1]" + " and [1=1]".repeat(11), 0);
        rule("go 1 if not 1=1" + " or not 1=1".repeat(11), 0);
        rule("go 1 if not[1=1]" + " or not[1=1]".repeat(11), 0);
        String tenDeep = "[".repeat(10) + "1=1" + "]".repeat(10);
        rule("go 1 if " + tenDeep + "and " + tenDeep + "or " + tenDeep, 0);
        rule("go 1 if " + tenDeep + ";go 1 if " + tenDeep + ";go 1 if " + tenDeep, 0);
        rule("go 1 if " + tenDeep + "and [" + tenDeep + "]", Tape.fault(8 + 23 + 4 + 10, 2));
        String inOne = "[1=1 and [not 1=1] or not not 1=1 and " + "not ".repeat(9) + "1=1]";
        rule("go 1 if " + inOne, 0);
        rule("go 1 if " + inOne.replace("[not 1=1]", "[not not 1=1]"), 0);
        rule("go 1 if [[1=1] and " + "not ".repeat(10) + "1=1]", Tape.fault(8 + 11 + 36, 2));
    }

    private static void deepAmongOthers() {
        EDGES.sentence("10 deep at most (with an or and an and ahead of each)");
        String opened = "1=2 or 1=1 and [".repeat(9);
        String closed = "]".repeat(9);
        for (String inmost : new String[] {"[1=1]", "not 1=2", "1=1"}) {
            EDGES.is("all hold", Edges.camp("camp 2 0", "go 1 if " + opened + inmost + closed).step(), 1);
        }
        for (String inmost : new String[] {"[1=2]", "not 1=1", "1=2"}) {
            EDGES.is("the inmost does not", Edges.camp("camp 2 0", "go 1 if " + opened + inmost + closed).step(), 0);
        }
        String loose = opened.replace("1=2", "1=1");
        EDGES.is("those ahead do", Edges.camp("camp 2 0", "go 1 if " + loose + "[1=2]" + closed).step(), 1);
        rule("go 1 if " + opened + "[[1=1]]" + closed, Tape.fault(8 + 16 * 9 + 1, 2));
    }

    private static void values() {
        EDGES.sentence("at most 60 VALUES (of SUMS); FAULT 3: one VALUE too many (at its first byte)");
        rule("go 1" + "+1".repeat(59), 0);
        rule("go 1" + "+1".repeat(60), Tape.fault(123, 3));
        rule("go 1" + "*1".repeat(60), Tape.fault(123, 3));
        rule("go 1" + "+1".repeat(59) + "+  step", Tape.fault(125, 3));
        rule("go 1" + "+1".repeat(59) + " - 12345", Tape.fault(125, 3));
        rule("go 1" + "+1".repeat(59) + "+", Tape.fault(123, 0));
        rule("go 1" + "+1".repeat(70), Tape.fault(123, 3));
        EDGES.is("the 60th counts", Edges.camp("camp 2 0", "go 0" + "+0".repeat(58) + "+cell").step(), 2);
    }

    private static void valuesOfAllClauses() {
        EDGES.sentence("at most 60 VALUES (of SUMS) and FACTS made of a SIGN, together");
        String five = "go 1+1+1+1+1";
        rule(five + (";" + five).repeat(11), 0);
        rule(five + (";" + five).repeat(10) + ";" + five + "+1", Tape.fault(13 * 12, 3));
        rule(five + (";" + five).repeat(10) + ";go 1+1+1+1+1+1", Tape.fault(13 * 12, 3));
        String four = "go 1 if 1=1";
        rule(four + (";" + four).repeat(11), 0);
        String facts = "1=1" + " and 1=1".repeat(18);
        rule("go 1+1+1 if " + facts, 0);
        rule("go 1+1+1+1 if " + facts, Tape.fault(14 + 3 + 8 * 18 - 1, 3));
        rule("go 1+1+1+1+1 if " + facts, Tape.fault(16 + 3 + 8 * 18 - 2, 3));
        rule("go 1+1+1+1+1+1 if " + facts, Tape.fault(18 + 3 + 8 * 18 - 3, 3));
    }

    private static void valuesOfEachRule() {
        EDGES.sentence("at most 60 VALUES (of one RULE)");
        AskedCamp x = new AskedCamp();
        for (int i = 0; i < 6; i++) {
            EDGES.is("one more of 61", Tape.rule(x, "go 1" + "+1".repeat(60)), Tape.fault(123, 3));
            EDGES.is("one more of 60", Tape.rule(x, "go 1" + "+1".repeat(59)), i);
        }
    }

    private static void facts() {
        EDGES.sentence("FAULT 3: one FACT too many (of a FACT at its SIGN)");
        rule("go 1" + "+1".repeat(56) + " if 1<1", 0);
        rule("go 1" + "+1".repeat(57) + " if 1<1", Tape.fault(118 + 4 + 2, 3));
        rule("go 1" + "+1".repeat(58) + " if 1<1", Tape.fault(120 + 4 + 1, 3));
        rule("go 1" + "+1".repeat(58) + " if 1  <=  1", Tape.fault(120 + 4 + 3, 3));
        rule("go 1" + "+1".repeat(58) + " if 1  >=", Tape.fault(120 + 4 + 3, 3));
        rule("go 1" + "+1".repeat(59) + " if 1<1", Tape.fault(122 + 4, 3));
        String loose = " if not not not [[[1<1]]]";
        EDGES.is("not and [ count for nothing", Tape.rule(new AskedCamp(), "go 1" + "+1".repeat(56) + loose), 0);
    }

    private static void firstFault() {
        EDGES.sentence("FAULTS, the first along the text, 1 + 8 * its place");
        rule("go 100000 x", Tape.fault(3, 1));
        rule("go x 100000", Tape.fault(3, 0));
        rule("go 1 if " + "[".repeat(11) + "100000", Tape.fault(18, 2));
        rule("go 1 if 100000 = " + "[".repeat(11), Tape.fault(8, 1));
        rule("go 1" + "+1".repeat(60) + "+100000", Tape.fault(123, 3));
        rule("go 1" + ";go 1".repeat(12) + "00000", Tape.fault(60, 4));
        rule("go 1" + ";go 1".repeat(10) + ";go 100000;go 1", Tape.fault(58, 1));
    }

    private static void nothingOfAFaultyOne() {
        EDGES.sentence("-2 - its FAULT (and the next text begins anew)");
        String tenDeep = "[".repeat(10) + "1=1" + "]".repeat(10);
        String[] faulty = {"go 1 if [[[1=2 or not not 1", "go 1 if " + "[".repeat(11), "go 1 if not " + "not ".repeat(10),
            "go 1 if 1=2 and 1=2 or [1=2 and [", "go 1" + "+1".repeat(60), "go 1" + ";go 1".repeat(12)};
        for (String text : faulty) {
            AskedCamp x = Edges.camp("camp 2 0");
            Tape.rule(x, text);
            EDGES.is("10 deep behind " + text, Tape.rule(x, "go 1 if " + tenDeep), 0);
            Tape.rule(x, text);
            EDGES.is("none is open behind " + text, Tape.rule(x, "go 1 if 1=1]"), Tape.fault(11, 0));
            Tape.rule(x, text);
            EDGES.is("one more behind " + text, Tape.rule(x, "go cell"), 1);
            EDGES.is("goes by the first", x.force(0) + x.step(), 0);
            EDGES.is("goes by the second", x.force(1) + x.step(), 3);
        }
    }

    private static void leastOfOnePlace() {
        EDGES.sentence("Of one place the least.");
        rule("go 1" + "+1".repeat(59) + "+100000", Tape.fault(123, 1));
        rule("go 1" + "+1".repeat(59) + "+x", Tape.fault(123, 0));
        rule("go 1" + "+1".repeat(59) + "+cells", Tape.fault(123, 0));
        rule("go 1" + "+1".repeat(58) + " if 1!1", Tape.fault(125, 0));
        rule("go 1" + ";go 1".repeat(11) + ";gone 1", Tape.fault(60, 0));
        rule("go 1" + ";go 1".repeat(11) + ";1", Tape.fault(60, 0));
    }
}
