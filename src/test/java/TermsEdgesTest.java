import java.util.ArrayList;
import java.util.List;
import java.util.function.ToIntFunction;

/**
 * The document's 'What it is' and 'Terms', sentence by sentence: for each one that names a boundary
 * case a test of its own, headed by the sentence.
 */
public final class TermsEdgesTest {
    private static final int LOW = Integer.MIN_VALUE;
    private static final int HIGH = Integer.MAX_VALUE;
    private static final int BAD = FlowOptimiser.BAD_ARG;
    private static final int FULL = FlowOptimiser.FULL;
    private static final int HALTED = FlowOptimiser.HALTED;
    private static final int FULL_UP = FlowOptimiser.FULL_UP;
    private static final int TIRED = FlowOptimiser.TIRED;

    private static final int CONST = 0;
    private static final int COPY = 1;
    private static final int ADD = 2;
    private static final int SUB = 3;
    private static final int MUL = 4;
    private static final int AND = 5;
    private static final int XOR = 6;
    private static final int LESS = 7;

    public static void main(String[] args) {
        anObjectServes512Calls();
        atMost20Instructions();
        numberedFrom0();
        eightNumbers();
        numbersAreInts();
        additionWraps();
        subtractionWraps();
        multiplicationWraps();
        namesOfNumbersAre0To7();
        constantsAreFromMinus50To50();
        placesAreFrom0To20();
        constSetsItsNumber();
        copyReadsAndSets();
        andIsBitByBit();
        xorIsBitByBit();
        lessIsStrictAndOfWholeInts();
        jumpGoesOnAtItsPlace();
        branchGoesOnThereIfNot0();
        outPutsItsNumberOut();
        haltEndsTheRun();
        targetMayBeASource();
        aRunBeginsAtInstruction0();
        aRunBeginsWithTheStartValues();
        otherInstructionsGoOnAtTheNext();
        noInstructionOfTheNumber();
        atAHalt();
        fullUpAtThe25th();
        tiredAtThe41st();
        ownNumberIsNotGreater();
        jumpsAndBranchesTireTogether();
        onlyGoingBackTires();
        runsChangeNoStartValue();
        runsChangeNoProgram();
        noCallEverThrows();
        refusedCallsChangeNothing();
        constantsAreAsNamed();
        Check.end();
    }

    private static FlowOptimiser halts(int instructions) {
        FlowOptimiser x = new FlowOptimiser();
        for (int i = 0; i < instructions; i++) {
            x.halt();
        }
        return x;
    }

    /** What op makes of two numbers, which come to their places in the run itself. */
    private static int made(int op, int left, int right) {
        FlowOptimiser x = new FlowOptimiser();
        x.start(0, left);
        x.start(1, right);
        x.simple(COPY, 3, 0);
        x.simple(COPY, 5, 1);
        x.apply(op, 6, 3, 5);
        x.out(6);
        return x.output(0);
    }

    private static void madeDue(int op, int left, int right, int want) {
        Check.due("op " + op + " of " + left + " and " + right, made(op, left, right), want);
    }

    /** n0 counts down to 0 by n1, which is 1, and goes back each time but the last: from - 1 times. */
    private static FlowOptimiser countdown(int from) {
        FlowOptimiser x = new FlowOptimiser();
        x.start(0, from);
        x.start(1, 1);
        x.apply(SUB, 0, 0, 1);
        x.branch(0, 0);
        return x;
    }

    private static void anObjectServes512Calls() {
        Check.by("An object is used for at most 512 calls after it has been made");
        FlowOptimiser x = new FlowOptimiser();
        int calls = 0;
        for (int round = 0; round < 17; round++) {
            for (int i = 0; i < 10; i++) {
                Check.due("round " + round + ": out(0)", x.out(0), i);
            }
            Check.due("round " + round + ": start(0, 1)", x.start(0, 1), 0);
            for (int i = 0; i < 9; i++) {
                Check.due("round " + round + ": digest()", x.digest(), 55);
            }
            for (int i = 0; i < 10; i++) {
                Check.due("round " + round + ": drop()", x.drop(), 10);
            }
            calls += 30;
        }
        Check.due("calls so far", calls, 510);
        Check.due("call 511: out(0)", x.out(0), 0);
        Check.due("call 512: output(0)", x.output(0), 1);

        // The longest runs, asked for as often as may be.
        FlowOptimiser tiring = new FlowOptimiser();
        tiring.jump(0);
        for (int call = 2; call <= 512; call++) {
            Check.due("call " + call + ": backs()", tiring.backs(), 40);
        }
    }

    private static void atMost20Instructions() {
        Check.by("A PROGRAM is a list of at most 20 INSTRUCTIONS");
        FlowOptimiser x = halts(19);
        Check.due("the 20th: halt()", x.halt(), 19);
        Check.due("size() then", x.size(), 20);
        Check.due("the 21st: halt()", x.halt(), FULL);
        Check.due("the 21st again: halt()", x.halt(), FULL);
        Check.due("size() after the 21st", x.size(), 20);
    }

    private static void numberedFrom0() {
        Check.by("INSTRUCTIONS, numbered 0, 1, ..");
        FlowOptimiser x = new FlowOptimiser();
        Check.due("the first: simple(0, 0, 9)", x.simple(CONST, 0, 9), 0);
        Check.due("the second: jump(3)", x.jump(3), 1);
        Check.due("the third: simple(0, 0, 8)", x.simple(CONST, 0, 8), 2);
        Check.due("the fourth: out(0)", x.out(0), 3);
        Check.outputsDue("jump(3) goes to the fourth", x, 9);
    }

    private static void eightNumbers() {
        Check.by("NUMBERS n0 to n7");
        for (int one = 0; one < 8; one++) {
            FlowOptimiser x = new FlowOptimiser();
            x.simple(CONST, one, 1);
            int[] want = new int[8];
            want[one] = 1;
            for (int n = 0; n < 8; n++) {
                x.out(n);
            }
            Check.outputsDue("n" + one + " alone is set", x, want);
        }
    }

    private static void numbersAreInts() {
        Check.by("NUMBERS n0 to n7 are ints");
        int[] values = {LOW, LOW + 1, -65536, -32769, 32768, 65535, HIGH - 1, HIGH};
        FlowOptimiser x = new FlowOptimiser();
        for (int n = 0; n < 8; n++) {
            x.start(n, values[n]);
            x.out(n);
        }
        Check.outputsDue("the whole range of ints", x, values);
    }

    private static void additionWraps() {
        Check.by("arithmetic wraps; nd becomes na + nb");
        madeDue(ADD, 20, 3, 23);
        madeDue(ADD, HIGH, 0, HIGH);
        madeDue(ADD, HIGH, 1, LOW);
        madeDue(ADD, LOW, -1, HIGH);
        madeDue(ADD, LOW, LOW, 0);
        madeDue(ADD, HIGH, HIGH, -2);
    }

    private static void subtractionWraps() {
        Check.by("arithmetic wraps; nd becomes na - nb");
        madeDue(SUB, 20, 3, 17);
        madeDue(SUB, 3, 20, -17);
        madeDue(SUB, LOW, 0, LOW);
        madeDue(SUB, LOW, 1, HIGH);
        madeDue(SUB, HIGH, -1, LOW);
        madeDue(SUB, 0, LOW, LOW);
        madeDue(SUB, LOW, HIGH, 1);
    }

    private static void multiplicationWraps() {
        Check.by("arithmetic wraps; nd becomes na * nb");
        madeDue(MUL, -20, 3, -60);
        madeDue(MUL, 46340, 46340, 2147395600);
        madeDue(MUL, 46341, 46341, -2147479015);
        madeDue(MUL, 65536, 32768, LOW);
        madeDue(MUL, 65536, 65536, 0);
        madeDue(MUL, HIGH, HIGH, 1);
        madeDue(MUL, LOW, -1, LOW);
        madeDue(MUL, LOW, LOW, 0);
    }

    private static void namesOfNumbersAre0To7() {
        Check.by("d, a, b are 0 to 7");
        int[] names = {LOW, -8, -1, 0, 7, 8, 9, HIGH};
        for (int n : names) {
            int want = n == 0 || n == 7 ? 0 : BAD;
            Check.due("const, d = " + n, new FlowOptimiser().simple(CONST, n, 0), want);
            Check.due("copy, d = " + n, new FlowOptimiser().simple(COPY, n, 0), want);
            Check.due("copy, a = " + n, new FlowOptimiser().simple(COPY, 0, n), want);
            for (int op = ADD; op <= LESS; op++) {
                Check.due("op " + op + ", d = " + n, new FlowOptimiser().apply(op, n, 0, 0), want);
                Check.due("op " + op + ", a = " + n, new FlowOptimiser().apply(op, 0, n, 0), want);
                Check.due("op " + op + ", b = " + n, new FlowOptimiser().apply(op, 0, 0, n), want);
            }
            Check.due("branch, a = " + n, new FlowOptimiser().branch(n, 0), want);
            Check.due("out, a = " + n, new FlowOptimiser().out(n), want);
        }
    }

    private static void constantsAreFromMinus50To50() {
        Check.by("k is from -50 to 50");
        int[] inside = {-50, -49, -1, 0, 8, 49, 50};
        for (int k : inside) {
            FlowOptimiser x = new FlowOptimiser();
            Check.due("const 4 " + k, x.simple(CONST, 4, k), 0);
            x.out(4);
            Check.outputsDue("const 4 " + k, x, k);
        }
        int[] outside = {LOW, -306, -51, 51, 306, HIGH};
        for (int k : outside) {
            Check.due("const 4 " + k, new FlowOptimiser().simple(CONST, 4, k), BAD);
        }
    }

    private static void placesAreFrom0To20() {
        Check.by("l from 0 to 20");
        int[] inside = {0, 1, 19, 20};
        for (int l : inside) {
            Check.due("jump " + l, new FlowOptimiser().jump(l), 0);
            Check.due("branch 0 " + l, new FlowOptimiser().branch(0, l), 0);
        }
        int[] outside = {LOW, -1, 21, HIGH};
        for (int l : outside) {
            Check.due("jump " + l, new FlowOptimiser().jump(l), BAD);
            Check.due("branch 0 " + l, new FlowOptimiser().branch(0, l), BAD);
        }
    }

    private static void constSetsItsNumber() {
        Check.by("const d k: nd becomes k");
        FlowOptimiser x = new FlowOptimiser();
        x.start(0, HIGH);
        x.start(7, LOW);
        x.simple(CONST, 0, -50);
        x.simple(CONST, 7, 50);
        x.out(0);
        x.out(7);
        Check.outputsDue("the least and the greatest k", x, -50, 50);
    }

    private static void copyReadsAndSets() {
        Check.by("copy d a: nd becomes na");
        FlowOptimiser x = new FlowOptimiser();
        x.start(7, LOW);
        x.simple(COPY, 0, 7);
        x.out(0);
        x.out(7);
        Check.outputsDue("n0 from n7", x, LOW, LOW);
        x.clear();
        x.simple(COPY, 7, 0);
        x.out(0);
        x.out(7);
        Check.outputsDue("n7 from n0", x, 0, 0);
    }

    private static void andIsBitByBit() {
        Check.by("nd becomes na and nb, bit by bit");
        madeDue(AND, 12, 10, 8);
        madeDue(AND, 1, 2, 0);
        madeDue(AND, -1, LOW, LOW);
        madeDue(AND, LOW, HIGH, 0);
        madeDue(AND, -1, -1, -1);
    }

    private static void xorIsBitByBit() {
        Check.by("nd becomes na exclusive or nb, bit by bit");
        madeDue(XOR, 12, 10, 6);
        madeDue(XOR, -1, -1, 0);
        madeDue(XOR, LOW, HIGH, -1);
        madeDue(XOR, -1, LOW, HIGH);
        madeDue(XOR, 0, LOW, LOW);
    }

    private static void lessIsStrictAndOfWholeInts() {
        Check.by("nd becomes 1 if na < nb, else 0");
        madeDue(LESS, 4, 5, 1);
        madeDue(LESS, 5, 5, 0);
        madeDue(LESS, 6, 5, 0);
        madeDue(LESS, -1, 0, 1);
        madeDue(LESS, 0, -1, 0);
        madeDue(LESS, LOW, HIGH, 1);
        madeDue(LESS, HIGH, LOW, 0);
        madeDue(LESS, LOW, LOW, 0);
        madeDue(LESS, HIGH, HIGH, 0);
        madeDue(LESS, LOW, LOW + 1, 1);
        madeDue(LESS, HIGH - 1, HIGH, 1);
    }

    private static void jumpGoesOnAtItsPlace() {
        Check.by("jump l: goes on at instruction l");
        for (int l = 1; l <= 20; l++) {
            FlowOptimiser x = new FlowOptimiser();
            x.jump(l);
            for (int i = 1; i < 20; i++) {
                x.out(0);
            }
            Check.runDue("jump to " + l + " of 20", x, HALTED, 0, 20 - l);
        }
    }

    private static void branchGoesOnThereIfNot0() {
        Check.by("branch a l: goes on at instruction l if na is not 0");
        int[] notZero = {1, -1, 2, 65536, LOW, HIGH};
        for (int value : notZero) {
            FlowOptimiser x = branching(value);
            Check.outputsDue("taken for " + value, x, value);
        }
        Check.outputsDue("not taken for 0", branching(0), 5, 0);
    }

    private static FlowOptimiser branching(int value) {
        FlowOptimiser x = new FlowOptimiser();
        x.start(0, 5);
        x.start(7, value);
        x.branch(7, 2);
        x.out(0);
        x.out(7);
        return x;
    }

    private static void outPutsItsNumberOut() {
        Check.by("out a: puts na out");
        FlowOptimiser x = new FlowOptimiser();
        x.start(0, LOW);
        x.start(7, HIGH);
        x.out(7);
        x.out(0);
        x.out(7);
        x.out(1);
        Check.outputsDue("n7, n0, n7 and n1, a 0", x, HIGH, LOW, HIGH, 0);
    }

    private static void haltEndsTheRun() {
        Check.by("halt: the run ends");
        FlowOptimiser x = new FlowOptimiser();
        x.halt();
        x.out(0);
        Check.runDue("at instruction 0", x, HALTED, 0, 0);
        x.clear();
        x.out(0);
        x.halt();
        x.jump(0);
        Check.runDue("before a jump back", x, HALTED, 0, 1);
    }

    private static void targetMayBeASource() {
        Check.by("(d may be the same as a or b.)");
        int[] want = {28, 12, 160, 0, 28, 0};
        int[] doubled = {40, 0, 400, 20, 0, 0};
        for (int op = ADD; op <= LESS; op++) {
            Check.outputsDue("op " + op + ", d is a", applied(op, 0, 0, 1), want[op - ADD], 8);
            Check.outputsDue("op " + op + ", d is b", applied(op, 1, 0, 1), 20, want[op - ADD]);
            Check.outputsDue("op " + op + ", d is a and b", applied(op, 0, 0, 0), doubled[op - ADD], 8);
        }
        FlowOptimiser x = new FlowOptimiser();
        x.start(7, 6);
        x.simple(COPY, 7, 7);
        x.out(7);
        Check.outputsDue("copy 7 7", x, 6);
    }

    private static FlowOptimiser applied(int op, int d, int a, int b) {
        FlowOptimiser x = new FlowOptimiser();
        x.start(0, 20);
        x.start(1, 8);
        x.apply(op, d, a, b);
        x.out(0);
        x.out(1);
        return x;
    }

    private static void aRunBeginsAtInstruction0() {
        Check.by("A RUN begins at instruction 0");
        FlowOptimiser x = new FlowOptimiser();
        x.start(0, 3);
        x.out(0);
        Check.outputsDue("the only instruction", x, 3);
        x.halt();
        x.out(1);
        // Asked again after a run that ended elsewhere than at 0.
        Check.due("ending()", x.ending(), HALTED);
        Check.outputsDue("the first of three", x, 3);
        x.clear();
        x.out(0);
        for (int i = 1; i < 20; i++) {
            x.halt();
        }
        Check.outputsDue("the first of 20", x, 3);
    }

    private static void aRunBeginsWithTheStartValues() {
        Check.by("with the START VALUES in n0 to n7");
        FlowOptimiser x = new FlowOptimiser();
        for (int n = 0; n < 8; n++) {
            x.start(n, 10 + n);
            x.out(n);
        }
        for (int n = 0; n < 8; n++) {
            x.simple(CONST, n, -1);
        }
        for (int time = 0; time < 2; time++) {
            Check.outputsDue("run " + time, x, 10, 11, 12, 13, 14, 15, 16, 17);
        }
    }

    private static void otherInstructionsGoOnAtTheNext() {
        Check.by("An instruction that does not say where it goes on goes on at the next one");
        for (int op = CONST; op <= LESS; op++) {
            FlowOptimiser x = new FlowOptimiser();
            if (op <= COPY) {
                x.simple(op, 1, 0);
            } else {
                x.apply(op, 1, 0, 0);
            }
            x.out(0);
            x.halt();
            Check.runDue("after op " + op, x, HALTED, 0, 1);
        }
        FlowOptimiser x = new FlowOptimiser();
        x.out(0);
        x.out(0);
        x.halt();
        Check.runDue("after an out", x, HALTED, 0, 2);
        x.clear();
        x.branch(0, 2);
        x.out(0);
        Check.runDue("after a branch with 0", x, HALTED, 0, 1);
    }

    private static void noInstructionOfTheNumber() {
        Check.by("Where there is no instruction of the number the run ends HALTED");
        Check.runDue("no instruction at all", new FlowOptimiser(), HALTED, 0, 0);
        FlowOptimiser x = new FlowOptimiser();
        x.out(0);
        Check.runDue("behind the only one", x, HALTED, 0, 1);
        for (int i = 1; i < 20; i++) {
            x.out(0);
        }
        Check.runDue("behind the last of 20", x, HALTED, 0, 20);
        x.drop();
        x.jump(20);
        Check.runDue("jump 20 as the last of 20", x, HALTED, 0, 19);
        for (int l = 1; l <= 20; l++) {
            x = new FlowOptimiser();
            x.start(0, 1);
            x.jump(l);
            Check.runDue("jump " + l + " alone", x, HALTED, 0, 0);
            x.drop();
            x.branch(0, l);
            Check.runDue("branch 0 " + l + " alone", x, HALTED, 0, 0);
        }
        x = new FlowOptimiser();
        x.jump(2);
        x.halt();
        x.out(0);
        Check.runDue("before the drop", x, HALTED, 0, 1);
        x.drop();
        Check.runDue("jump to a dropped instruction", x, HALTED, 0, 0);
        x.clear();
        x.jump(1);
        Check.runDue("jump to a cleared instruction", x, HALTED, 0, 0);
    }

    private static void atAHalt() {
        Check.by("at a halt, the run ends HALTED");
        for (int where = 0; where < 20; where++) {
            FlowOptimiser x = new FlowOptimiser();
            for (int i = 0; i < 20; i++) {
                if (i == where) {
                    x.halt();
                } else {
                    x.out(0);
                }
            }
            Check.runDue("halt as instruction " + where, x, HALTED, 0, where);
        }
        FlowOptimiser full = new FlowOptimiser();
        putOutTwelveTwice(full);
        full.halt();
        full.out(0);
        Check.runDue("halt after 24 numbers", full, HALTED, 1, 24);
        FlowOptimiser tired = countdown(41);
        tired.halt();
        tired.jump(0);
        Check.runDue("halt after 40 times back", tired, HALTED, 40, 0);
    }

    /** Twelve outs of n7, gone through n0 times, which is twice. */
    private static void putOutTwelveTwice(FlowOptimiser x) {
        x.start(0, 2);
        x.start(1, 1);
        for (int i = 0; i < 12; i++) {
            x.out(7);
        }
        x.apply(SUB, 0, 0, 1);
        x.branch(0, 0);
    }

    private static void fullUpAtThe25th() {
        Check.by("if 24 numbers were put out and a further one would be, it ends FULL_UP");
        FlowOptimiser x = new FlowOptimiser();
        putOutTwelveTwice(x);
        Check.runDue("24 numbers and no further one", x, HALTED, 1, 24);
        x.simple(CONST, 2, 1);
        Check.runDue("24 numbers, then a const", x, HALTED, 1, 24);
        x.out(2);
        x.jump(16);
        Check.runDue("24 numbers, then an out", x, FULL_UP, 1, 24);
        Check.due("the 24th is put out", x.kinds(), 1);
        x.start(0, 1);
        Check.runDue("12 numbers and one", x, TIRED, 40, 13);
        x.clear();
        x.start(0, 24);
        x.out(7);
        x.apply(SUB, 0, 0, 1);
        x.branch(0, 0);
        Check.runDue("24 times round", x, HALTED, 23, 24);
        x.start(0, 25);
        Check.runDue("25 times round", x, FULL_UP, 24, 24);
        x.start(0, 23);
        Check.runDue("23 times round", x, HALTED, 22, 23);
    }

    private static void tiredAtThe41st() {
        Check.by("would go on at an instruction whose number is not greater than its own, "
            + "and 40 times in the run one did so before, it ends TIRED");
        Check.runDue("branch, 39 times", countdown(40), HALTED, 39, 0);
        Check.runDue("branch, 40 times", countdown(41), HALTED, 40, 0);
        Check.runDue("branch, the 41st time", countdown(42), TIRED, 40, 0);
        FlowOptimiser tired = countdown(42);
        tired.out(0);
        Check.runDue("nothing comes after it", tired, TIRED, 40, 0);
        int[] froms = {40, 41, 42};
        for (int from : froms) {
            FlowOptimiser x = new FlowOptimiser();
            x.start(0, from);
            x.start(1, 1);
            x.apply(SUB, 0, 0, 1);
            x.branch(0, 3);
            x.halt();
            x.jump(0);
            int ending = from <= 41 ? HALTED : TIRED;
            Check.runDue("jump, from " + from, x, ending, from <= 41 ? from - 1 : 40, 0);
        }
    }

    private static void ownNumberIsNotGreater() {
        Check.by("whose number is not greater than its own");
        for (int own = 0; own < 20; own++) {
            Check.runDue("jump at " + own + " to itself", jumping(own, own), TIRED, 40, 0);
            Check.runDue("jump at " + own + " to the next", jumping(own, own + 1), HALTED, 0, 0);
            Check.runDue("branch at " + own + " to itself", branchingAt(own, own), TIRED, 40, 0);
            Check.runDue("branch at " + own + " to the next", branchingAt(own, own + 1), HALTED, 0, 0);
            if (own > 0) {
                Check.runDue("jump at " + own + " to the one before", jumping(own, own - 1), TIRED, 40, 0);
                Check.runDue("branch at " + own + " to 0", branchingAt(own, 0), TIRED, 40, 0);
            }
        }
    }

    private static FlowOptimiser jumping(int own, int l) {
        FlowOptimiser x = new FlowOptimiser();
        for (int i = 0; i < own; i++) {
            x.simple(CONST, 0, 1);
        }
        x.jump(l);
        return x;
    }

    private static FlowOptimiser branchingAt(int own, int l) {
        FlowOptimiser x = new FlowOptimiser();
        x.start(3, -1);
        for (int i = 0; i < own; i++) {
            x.simple(CONST, 0, 1);
        }
        x.branch(3, l);
        return x;
    }

    private static void jumpsAndBranchesTireTogether() {
        Check.by("a jump, or a branch, .. and 40 times in the run one did so before");
        // Two times back in each round: the jump at 3 to 1 and the branch at 4 to 2.
        FlowOptimiser x = new FlowOptimiser();
        x.start(1, 1);
        x.jump(2);
        x.jump(4);
        x.apply(SUB, 0, 0, 1);
        x.jump(1);
        x.branch(0, 2);
        x.out(0);
        x.start(0, 20);
        Check.runDue("20 jumps and 19 branches", x, HALTED, 39, 1);
        x.start(0, 21);
        Check.runDue("20 jumps and 20 branches, then a jump", x, TIRED, 40, 0);
        x.simple(CONST, 2, 1);
        x.branch(2, 6);
        x.start(0, 20);
        Check.runDue("20 jumps and 19 branches, then others", x, TIRED, 40, 1);
    }

    private static void onlyGoingBackTires() {
        Check.by("if a jump, or a branch, would go on at an instruction whose number is not greater");
        FlowOptimiser x = countdown(41);
        x.branch(0, 0);
        x.jump(4);
        x.branch(1, 6);
        x.out(0);
        x.out(0);
        Check.runDue("after 40 times back: a branch with 0, a jump and a branch on", x, HALTED, 40, 1);
        x.jump(7);
        Check.runDue("after 40 times back: a jump to itself", x, TIRED, 40, 1);
    }

    private static void runsChangeNoStartValue() {
        Check.by("Runs change nothing, neither start values");
        FlowOptimiser x = new FlowOptimiser();
        for (int n = 0; n < 8; n++) {
            x.start(n, 3 + n);
            x.apply(ADD, n, n, n);
        }
        x.out(0);
        x.out(7);
        x.jump(0);
        askAll(x);
        askAll(x);
        x.clear();
        for (int n = 0; n < 8; n++) {
            x.out(n);
        }
        Check.outputsDue("the start values after runs", x, 3, 4, 5, 6, 7, 8, 9, 10);
    }

    private static void askAll(FlowOptimiser x) {
        x.ending();
        x.outs();
        x.output(0);
        x.output(-1);
        x.digest();
        x.backs();
        x.kinds();
    }

    private static void runsChangeNoProgram() {
        Check.by("Runs change nothing, neither start values nor program");
        FlowOptimiser x = everyInstruction();
        FlowOptimiser y = everyInstruction();
        askAll(x);
        askAll(x);
        sameInAll("after runs", x, y);
    }

    /** All twelve instructions, with a loop that is gone through three times. */
    private static FlowOptimiser everyInstruction() {
        FlowOptimiser x = new FlowOptimiser();
        x.start(0, 3);
        x.start(7, -9);
        x.simple(CONST, 1, 1);
        x.simple(COPY, 2, 7);
        x.apply(ADD, 3, 2, 0);
        x.apply(SUB, 0, 0, 1);
        x.apply(MUL, 4, 3, 2);
        x.apply(AND, 5, 4, 7);
        x.apply(XOR, 6, 5, 3);
        x.apply(LESS, 5, 6, 4);
        x.out(6);
        x.out(5);
        x.branch(0, 1);
        x.jump(13);
        x.halt();
        return x;
    }

    /** Compares what both tell, with the program taken away one instruction after the other. */
    private static void sameInAll(String what, FlowOptimiser x, FlowOptimiser y) {
        Check.dueText(what, Check.told(x), Check.told(y));
        int size = y.size();
        for (int i = 0; i < size; i++) {
            Check.due(what + ": drop()", x.drop(), y.drop());
            Check.due(what + ": digest()", x.digest(), y.digest());
            Check.due(what + ": backs()", x.backs(), y.backs());
        }
        for (int n = 0; n < 8; n++) {
            x.out(n);
            y.out(n);
        }
        Check.dueText(what + ": the start values", Check.told(x), Check.told(y));
    }

    /** One object of each state that calls may meet, made anew each time. */
    private static FlowOptimiser[] states() {
        FlowOptimiser tired = new FlowOptimiser();
        tired.jump(0);
        FlowOptimiser fullUp = new FlowOptimiser();
        fullUp.out(0);
        fullUp.jump(0);
        return new FlowOptimiser[] {new FlowOptimiser(), everyInstruction(), tired, fullUp,
            fullWithAllSeen(), fullWithLastJump(), fullWithLastBranch()};
    }

    private static FlowOptimiser fullWithAllSeen() {
        FlowOptimiser x = new FlowOptimiser();
        for (int i = 0; i < 20; i++) {
            x.start(i % 8, 11 + i);
            x.out(i % 8);
        }
        return x;
    }

    /** Goes back behind the out at 0: going back to 0 would put more out. */
    private static FlowOptimiser fullWithLastJump() {
        FlowOptimiser x = new FlowOptimiser();
        x.out(0);
        for (int i = 1; i < 19; i++) {
            x.simple(CONST, 1, i);
        }
        x.jump(1);
        return x;
    }

    private static FlowOptimiser fullWithLastBranch() {
        FlowOptimiser x = fullWithLastJump();
        x.drop();
        x.start(6, 1);
        x.branch(6, 1);
        return x;
    }

    private static void noCallEverThrows() {
        Check.by("No call ever throws");
        int[] values = {LOW, LOW + 1, -51, -1, 0, 1, 2, 7, 8, 20, 21, 24, 51, HIGH - 1, HIGH};
        for (int p : values) {
            for (int q : values) {
                for (FlowOptimiser x : states()) {
                    throwsNot(x, p, q);
                }
            }
        }
    }

    private static void throwsNot(FlowOptimiser x, int p, int q) {
        String thrown = "nothing";
        try {
            x.output(p);
            x.start(p, q);
            x.simple(p, q, q);
            x.simple(CONST, p, q);
            x.simple(COPY, p, q);
            x.apply(p, q, q, q);
            x.apply(ADD, p, q, 0);
            x.apply(LESS, 0, p, q);
            x.jump(p);
            x.branch(p, q);
            x.out(p);
            x.halt();
            askAll(x);
            x.output(q);
            x.size();
            x.drop();
            askAll(x);
            x.clear();
            x.drop();
            x.clear();
            x.size();
            askAll(x);
        } catch (RuntimeException | Error e) {
            thrown = e.toString();
        }
        Check.dueText("what calls with " + p + " and " + q + " throw", thrown, "nothing");
    }

    private record Refused(String what, int code, ToIntFunction<FlowOptimiser> call) {
    }

    private static void refusedCallsChangeNothing() {
        Check.by("A refused call answers the code named and changes nothing");
        int states = states().length;
        for (int state = 0; state < states; state++) {
            for (Refused refused : refusedIn(states()[state].size())) {
                // Two alike, of which one alone meets the refused call.
                FlowOptimiser x = states()[state];
                FlowOptimiser y = states()[state];
                String what = "state " + state + ", " + refused.what;
                Check.due(what, refused.call.applyAsInt(x), refused.code);
                sameInAll(what, x, y);
            }
        }
    }

    private static List<Refused> refusedIn(int size) {
        List<Refused> calls = new ArrayList<>();
        refusedForArguments(calls);
        if (size == 0) {
            calls.add(new Refused("drop()", FlowOptimiser.NONE, x -> x.drop()));
        }
        if (size == 20) {
            refusedForRoom(calls);
        }
        return calls;
    }

    private static void refusedForArguments(List<Refused> calls) {
        int[] names = {LOW, -1, 8, HIGH};
        for (int n : names) {
            calls.add(new Refused("const, d = " + n, BAD, x -> x.simple(CONST, n, 1)));
            calls.add(new Refused("copy, d = " + n, BAD, x -> x.simple(COPY, n, 1)));
            calls.add(new Refused("copy, a = " + n, BAD, x -> x.simple(COPY, 1, n)));
            calls.add(new Refused("add, d = " + n, BAD, x -> x.apply(ADD, n, 1, 1)));
            calls.add(new Refused("add, a = " + n, BAD, x -> x.apply(ADD, 1, n, 1)));
            calls.add(new Refused("add, b = " + n, BAD, x -> x.apply(ADD, 1, 1, n)));
            calls.add(new Refused("branch, a = " + n, BAD, x -> x.branch(n, 0)));
            calls.add(new Refused("out, a = " + n, BAD, x -> x.out(n)));
            calls.add(new Refused("start, n = " + n, BAD, x -> x.start(n, 99)));
        }
        int[] constants = {LOW, -51, 51, HIGH};
        for (int k : constants) {
            calls.add(new Refused("const, k = " + k, BAD, x -> x.simple(CONST, 1, k)));
        }
        int[] places = {LOW, -1, 21, HIGH};
        for (int l : places) {
            calls.add(new Refused("jump, l = " + l, BAD, x -> x.jump(l)));
            calls.add(new Refused("branch, l = " + l, BAD, x -> x.branch(0, l)));
        }
        calls.add(new Refused("simple, op = -1", BAD, x -> x.simple(-1, 0, 0)));
        calls.add(new Refused("simple, op = 2", BAD, x -> x.simple(2, 0, 0)));
        calls.add(new Refused("apply, op = 1", BAD, x -> x.apply(1, 0, 0, 0)));
        calls.add(new Refused("apply, op = 8", BAD, x -> x.apply(8, 0, 0, 0)));
    }

    private static void refusedForRoom(List<Refused> calls) {
        calls.add(new Refused("const when full", FULL, x -> x.simple(CONST, 7, 50)));
        calls.add(new Refused("copy when full", FULL, x -> x.simple(COPY, 7, 5)));
        for (int op = ADD; op <= LESS; op++) {
            int each = op;
            calls.add(new Refused("op " + op + " when full", FULL, x -> x.apply(each, 7, 5, 4)));
        }
        calls.add(new Refused("jump when full", FULL, x -> x.jump(20)));
        calls.add(new Refused("branch when full", FULL, x -> x.branch(7, 20)));
        calls.add(new Refused("out when full", FULL, x -> x.out(7)));
        calls.add(new Refused("halt when full", FULL, x -> x.halt()));
    }

    private static void constantsAreAsNamed() {
        Check.by("BAD_ARG = -1, FULL = -2, NONE = -4, HALTED = 0, FULL_UP = 1, TIRED = 2");
        FlowOptimiser x = new FlowOptimiser();
        Check.due("an argument out of its range", x.jump(21), -1);
        Check.due("no such thing", x.drop(), -4);
        Check.due("a run that ends HALTED", x.ending(), 0);
        x.jump(0);
        Check.due("a run that ends TIRED", x.ending(), 2);
        x.drop();
        x.out(0);
        x.jump(0);
        Check.due("a run that ends FULL_UP", x.ending(), 1);
        Check.due("a program of 20 instructions", halts(20).halt(), -2);
    }
}
