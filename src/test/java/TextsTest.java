/** Promises 1 to 6: the new object, the tape, camps and rules with their faults, the rule in force. */
public final class TextsTest {
    private static final Due DUE = new Due();

    public static void main(String[] args) {
        newObject();
        tape();
        campsWithoutFault();
        campFaults();
        campAfterFault();
        ruleFaults();
        ruleLimits();
        force();
        DUE.close();
    }

    private static void newObject() {
        AskedCamp x = new AskedCamp();
        int[] want = {0, 0, 0, -1, 0, -1, 0, 0, 0, 0, 0, 0, 0, 0};
        for (int what = 0; what < want.length; what++) {
            DUE.due("1: count(" + what + ")", x.count(what), want[what]);
        }
        DUE.due("1: step", x.step(), -1);
        DUE.due("1: force", x.force(0), -2);
        DUE.due("1: undo", x.undo(), -1);
        DUE.due("1: back", x.back(0), -1);
    }

    private static void tape() {
        AskedCamp x = new AskedCamp();
        DUE.due("2: feed", x.feed(0x63616d70, 0x20322033, 0, 0, 0), 20);
        DUE.due("3: end", x.end(8), 8);
        DUE.due("3: count", x.count(13), 8);
        DUE.due("3: end beyond", x.end(9), -1);
        DUE.due("3: end below 0", x.end(-1), -1);
        DUE.due("3: stays", x.count(13), 8);
        DUE.due("2: highest byte first", x.camp(), 0);
        DUE.due("4: tape is empty", x.count(13), 0);
        DUE.due("2: as told", x.count(5), 3);
        for (int i = 1; i <= 20; i++) {
            DUE.due("2: feed", x.feed(1, 2, 3, 4, 5), 20 * i);
        }
        DUE.due("2: 401st byte", x.feed(1, 2, 3, 4, 5), -1);
        DUE.due("2: none came", x.count(13), 400);
        DUE.due("3: end", x.end(381), 381);
        DUE.due("2: no room for all", x.feed(1, 2, 3, 4, 5), -1);
        DUE.due("3: end", x.end(380), 380);
        DUE.due("2: room again", x.feed(1, 2, 3, 4, 5), 400);
        DUE.due("3: end at all", x.end(400), 400);
        DUE.due("3: end at none", x.end(0), 0);
    }

    private static void camp(String text, int want) {
        DUE.due("4: " + text, Tape.camp(new AskedCamp(), text), want);
    }

    private static void campsWithoutFault() {
        camp("camp 2 0", 0);
        camp("  camp6   35  ;bush0;tent00035 00020 ; tent 35 0", 2);
        camp("camp 2 3;tent 3 0;tent 3 0;tent 3 0;tent 3 0;tent 3 0;tent 3 0;bush 3;bush 3", 6);
        AskedCamp x = new AskedCamp();
        Tape.camp(x, "camp 3 4;tent 8 20;bush 4;tent 0 7;bush 4;bush 2");
        DUE.due("4: side", x.count(0), 3);
        DUE.due("4: bushes", x.count(9), 2);
        DUE.due("4: nerve", x.tent(0, 1), 20);
        DUE.due("4: cell", x.tent(1, 0), 0);
        DUE.due("4: own bit", x.tent(1, 3), 2);
        camp("camp 2 0" + ";bush 1".repeat(39), 0);
    }

    private static void campFaults() {
        camp("", Tape.fault(0, 0));
        camp("   ", Tape.fault(3, 0));
        camp("camp", Tape.fault(4, 0));
        camp("camp ", Tape.fault(5, 0));
        camp("camp 1 0", Tape.fault(5, 1));
        camp("camp 7 0", Tape.fault(5, 1));
        camp("camp 20", Tape.fault(5, 1));
        camp("camp 2 4", Tape.fault(7, 1));
        camp("camp 000002 0", Tape.fault(5, 1));
        camp("camp 2 99999999999999999999", Tape.fault(7, 1));
        camp("camp 2 0 0", Tape.fault(9, 0));
        camp("camp 2 0;", Tape.fault(9, 0));
        camp("camp 2 0;;", Tape.fault(9, 0));
        camp("camps 2 0", Tape.fault(0, 0));
        camp("cam 2 0", Tape.fault(0, 0));
        camp("damp 2 0", Tape.fault(0, 0));
        camp("campz 2 0", Tape.fault(0, 0));
        camp("Camp 2 0", Tape.fault(0, 0));
        camp("go 1", Tape.fault(0, 0));
        camp("tent 0 0", Tape.fault(0, 4));
        camp(" bush 0;camp 2 0", Tape.fault(1, 4));
        camp("camp 2 0;camp 2 0", Tape.fault(9, 4));
        camp("camp 2 0;tent 4 0", Tape.fault(14, 1));
        camp("camp 2 0;tent 0 21", Tape.fault(16, 1));
        camp("camp 2 0;tent 0", Tape.fault(15, 0));
        camp("camp 2 0;bush 4", Tape.fault(14, 1));
        camp("camp 2 0;bush x", Tape.fault(14, 0));
        camp("camp 2 0;bush 0x", Tape.fault(15, 0));
        camp("camp 2 0\u0000", Tape.fault(8, 0));
        camp("camp 2 0\u00e9", Tape.fault(8, 0));
        camp("camp 2 0" + ";bush 1".repeat(40), Tape.fault(9 + 39 * 7, 4));
        camp("camp 2 0" + ";bush 1".repeat(39) + ";tree 1", Tape.fault(9 + 39 * 7, 0));
        camp("camp 2 0" + ";bush 1".repeat(39) + ";", Tape.fault(9 + 39 * 7, 0));
        camp("camp 2 0" + ";tent 1 1".repeat(7), Tape.fault(9 + 6 * 9, 4));
    }

    private static void campAfterFault() {
        AskedCamp x = new AskedCamp();
        Tape.rule(x, "go 1");
        x.force(0);
        x.seed(77);
        Tape.camp(x, "camp 3 0;tent 8 5;bush 1");
        x.step();
        x.note(3, 3);
        DUE.due("4: fault", Tape.camp(x, "camp 3 9"), Tape.fault(7, 1));
        int[] stays = {3, 1, 1, 0, 1, 3, 0, 0, 0, 1, 1, 1, 77, 0};
        for (int what = 0; what < stays.length; what++) {
            DUE.due("4: stays, count(" + what + ")", x.count(what), stays[what]);
        }
        DUE.due("4: another", Tape.camp(x, "camp 2 1"), 0);
        int[] anew = {2, 0, 1, 0, 0, 1, 0, 0, 0, 0, 0, 0, 77, 0};
        for (int what = 0; what < anew.length; what++) {
            DUE.due("4: anew, count(" + what + ")", x.count(what), anew[what]);
        }
        DUE.due("4: been anew", x.cell(3, 1), 0);
    }

    private static void rule(String text, int want) {
        DUE.due("5: " + text, Tape.rule(new AskedCamp(), text), want);
    }

    private static void ruleFaults() {
        rule("go 1", 0);
        rule("go1if cell=1and not[row<2or column>=1];go step%2/3*4+5-6 if 1<=2", 0);
        rule("", Tape.fault(0, 0));
        rule("go", Tape.fault(2, 0));
        rule("gos 1", Tape.fault(0, 0));
        rule("camp 2 0", Tape.fault(0, 0));
        rule("go x", Tape.fault(3, 0));
        rule("go cells", Tape.fault(3, 0));
        rule("go bell", Tape.fault(3, 0));
        rule("go cella", Tape.fault(3, 0));
        rule("go 1 ifz 1 = 1", Tape.fault(5, 0));
        rule("go 1 of 1 = 1", Tape.fault(5, 0));
        rule("go not", Tape.fault(3, 0));
        rule("go 1;", Tape.fault(5, 0));
        rule("go 1 1", Tape.fault(5, 0));
        rule("go 1 go 1", Tape.fault(5, 0));
        rule("go 5 %", Tape.fault(6, 0));
        rule("go 5 % %", Tape.fault(7, 0));
        rule("go - 5", Tape.fault(3, 0));
        rule("go [1]", Tape.fault(3, 0));
        rule("go 100000", Tape.fault(3, 1));
        rule("go 99999", 0);
        rule("go 1 < 2", Tape.fault(5, 0));
        rule("go 1 if", Tape.fault(7, 0));
        rule("go 1 if 1", Tape.fault(9, 0));
        rule("go 1 if 1 < = 2", Tape.fault(12, 0));
        rule("go 1 if 1 =< 2", Tape.fault(11, 0));
        rule("go 1 if 1 == 2", Tape.fault(11, 0));
        rule("go 1 if 1 <= 2 = 3", Tape.fault(15, 0));
        rule("go 1 if 1 <= 2 and", Tape.fault(18, 0));
        rule("go 1 if 1 <= 2 or;", Tape.fault(17, 0));
        rule("go 1 if 1 <= 2 xor 1 = 1", Tape.fault(15, 0));
        rule("go 1 if near = 1]", Tape.fault(16, 0));
        rule("go 1 if [near = 1", Tape.fault(17, 0));
        rule("go 1 if [near = 1;go 1", Tape.fault(17, 0));
        rule("go 1 if [near] = 1", Tape.fault(13, 0));
        rule("go 1 if not", Tape.fault(11, 0));
        rule("go 1 if not and", Tape.fault(12, 0));
        rule("go 1 if [ ]", Tape.fault(10, 0));
        rule("go 1 if 1 if 1 = 1", Tape.fault(10, 0));
    }

    private static void ruleLimits() {
        rule("go 1 if " + "[".repeat(10) + "1=1" + "]".repeat(10), 0);
        rule("go 1 if " + "[".repeat(11) + "1=1" + "]".repeat(11), Tape.fault(18, 2));
        rule("go 1 if " + "not ".repeat(10) + "1=1 and " + "not ".repeat(10) + "1=1", 0);
        rule("go 1 if " + "not ".repeat(11) + "1=1", Tape.fault(8 + 40, 2));
        rule("go 1 if " + "not[".repeat(5) + "1=1" + "]".repeat(5) + "or" + "[".repeat(10) + "1=1" + "]".repeat(10), 0);
        rule("go 1 if " + "not[".repeat(5) + "not 1=1", Tape.fault(28, 2));
        rule("go 1 if [1=1 and [not 1=1] or " + "not ".repeat(9) + "1=1]", 0);
        rule("go 1 if [1=1 and [not 1=1] or " + "not ".repeat(10) + "1=1]", Tape.fault(30 + 36, 2));
        rule("go 1" + "+1".repeat(59), 0);
        rule("go 1" + "+1".repeat(60), Tape.fault(4 + 2 * 59 + 1, 3));
        rule("go 1" + "+1".repeat(59) + "+100000", Tape.fault(4 + 2 * 59 + 1, 1));
        rule("go 1" + "+1".repeat(59) + "+x", Tape.fault(4 + 2 * 59 + 1, 0));
        rule("go 1" + "+1".repeat(56) + " if 1<1", 0);
        rule("go 1" + "+1".repeat(57) + " if 1 < 1", Tape.fault(4 + 2 * 57 + 8, 3));
        rule("go 1" + "+1".repeat(58) + " if 1 < 1", Tape.fault(4 + 2 * 58 + 6, 3));
        rule("go 1" + "+1".repeat(58) + " if 1 + 1", Tape.fault(4 + 2 * 58 + 8, 3));
        rule("go 1" + ";go 1".repeat(11), 0);
        rule("go 1" + ";go 1".repeat(12), Tape.fault(5 * 12, 4));
        rule("go 1" + ";go 1".repeat(11) + ";og 1", Tape.fault(5 * 12, 0));
        AskedCamp x = new AskedCamp();
        for (int i = 0; i < 6; i++) {
            DUE.due("5: number", Tape.rule(x, "go 1"), i);
            DUE.due("5: fault", Tape.rule(x, "go"), i < 5 ? Tape.fault(2, 0) : -1);
            DUE.due("5: tape", x.count(13), i < 5 ? 0 : 2);
        }
        DUE.due("5: nothing happens", Tape.rule(x, "go 1"), -1);
        DUE.due("5: tape stays", x.count(13), 4);
        DUE.due("5: rules", x.count(2), 6);
    }

    private static void force() {
        AskedCamp x = new AskedCamp();
        Tape.rule(x, "go 1");
        Tape.rule(x, "go 2");
        DUE.due("6: was none", x.force(1), -1);
        DUE.due("6: none such", x.force(2), -2);
        DUE.due("6: none such", x.force(-2), -2);
        DUE.due("6: in force", x.count(3), 1);
        DUE.due("6: was 1", x.force(-1), 1);
        DUE.due("6: was none", x.force(0), -1);
        DUE.due("6: in force", x.count(3), 0);
    }
}
