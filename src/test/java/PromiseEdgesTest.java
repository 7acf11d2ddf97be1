/**
 * The document's promises 1 to 17, sentence by sentence: for each one that names a boundary case a
 * test of its own, headed by the promise and the sentence.
 */
public final class PromiseEdgesTest {
    private static final int LOW = Integer.MIN_VALUE;
    private static final int HIGH = Integer.MAX_VALUE;
    private static final int BAD = FlowOptimiser.BAD_ARG;
    private static final int FULL = FlowOptimiser.FULL;
    private static final int NONE = FlowOptimiser.NONE;
    private static final int HALTED = FlowOptimiser.HALTED;
    private static final int FULL_UP = FlowOptimiser.FULL_UP;
    private static final int TIRED = FlowOptimiser.TIRED;

    public static void main(String[] args) {
        newHasNoInstruction();
        newHasStartValues0();
        simpleOps();
        simpleTargets();
        simpleSources();
        simpleFull();
        simpleNumber();
        applyOps();
        applyNames();
        applyFull();
        applyNumber();
        jumpPlaces();
        jumpFull();
        jumpNumber();
        branchNames();
        branchPlaces();
        branchFull();
        branchNumber();
        outNames();
        outFull();
        outNumber();
        haltFull();
        haltNumber();
        dropRemovesTheLast();
        dropOfNone();
        dropAnswersTheOp();
        clearRemovesAll();
        clearRemovesInstructionsAlone();
        sizeCounts();
        startBecomesX();
        startNames();
        startAnswers0();
        endingTellsHow();
        outsCounts();
        outputTellsTheKth();
        outputOfNone();
        digestSumsAll();
        digestWraps();
        backsCounts();
        backsOfATiredRun();
        kindsCounts();
        Check.end();
    }

    private static FlowOptimiser halts(int instructions) {
        FlowOptimiser x = new FlowOptimiser();
        for (int i = 0; i < instructions; i++) {
            x.halt();
        }
        return x;
    }

    /** Puts n0 out, then adds n1 to it, for n2 times, which it counts down by n3, a 1. */
    private static FlowOptimiser series(int first, int step, int times) {
        FlowOptimiser x = new FlowOptimiser();
        x.start(0, first);
        x.start(1, step);
        x.start(2, times);
        x.start(3, 1);
        x.out(0);
        x.apply(2, 0, 0, 1);
        x.apply(3, 2, 2, 3);
        x.branch(2, 0);
        return x;
    }

    private static FlowOptimiser puttingOut(int... values) {
        FlowOptimiser x = new FlowOptimiser();
        for (int n = 0; n < values.length; n++) {
            x.start(n, values[n]);
            x.out(n);
        }
        return x;
    }

    private static void newHasNoInstruction() {
        Check.by("1: No instruction");
        FlowOptimiser x = new FlowOptimiser();
        Check.due("size()", x.size(), 0);
        Check.runDue("new", x, HALTED, 0, 0);
        Check.due("digest()", x.digest(), 0);
        Check.due("kinds()", x.kinds(), 0);
        Check.due("output(0)", x.output(0), 0);
        Check.due("drop()", x.drop(), NONE);
        Check.due("the first halt()", x.halt(), 0);
    }

    private static void newHasStartValues0() {
        Check.by("1: all start values are 0");
        FlowOptimiser x = new FlowOptimiser();
        for (int n = 0; n < 8; n++) {
            x.out(n);
        }
        Check.outputsDue("new", x, 0, 0, 0, 0, 0, 0, 0, 0);
    }

    private static void simpleOps() {
        Check.by("2: op not 0 or 1 answers BAD_ARG");
        int[] bad = {LOW, -1, 2, 3, 8, 11, 12, HIGH};
        for (int op : bad) {
            Check.due("simple(" + op + ", 1, 1)", new FlowOptimiser().simple(op, 1, 1), BAD);
        }
        Check.due("simple(0, 1, 1)", new FlowOptimiser().simple(0, 1, 1), 0);
        Check.due("simple(1, 1, 1)", new FlowOptimiser().simple(1, 1, 1), 0);
    }

    private static void simpleTargets() {
        Check.by("2: d not 0 to 7 answers BAD_ARG");
        int[] bad = {LOW, -1, 8, HIGH};
        for (int op = 0; op <= 1; op++) {
            for (int d : bad) {
                Check.due("simple(" + op + ", " + d + ", 0)", new FlowOptimiser().simple(op, d, 0), BAD);
            }
            for (int d = 0; d < 8; d++) {
                Check.due("simple(" + op + ", " + d + ", 0)", new FlowOptimiser().simple(op, d, 0), 0);
            }
        }
    }

    private static void simpleSources() {
        Check.by("2: a not in its range answers BAD_ARG");
        int[] outsideBoth = {LOW, -51, 51, HIGH};
        for (int a : outsideBoth) {
            Check.due("simple(0, 0, " + a + ")", new FlowOptimiser().simple(0, 0, a), BAD);
            Check.due("simple(1, 0, " + a + ")", new FlowOptimiser().simple(1, 0, a), BAD);
        }
        // The range is k's for const, a's for copy.
        int[] constAlone = {-50, -1, 8, 50};
        for (int a : constAlone) {
            Check.due("simple(0, 0, " + a + ")", new FlowOptimiser().simple(0, 0, a), 0);
            Check.due("simple(1, 0, " + a + ")", new FlowOptimiser().simple(1, 0, a), BAD);
        }
        int[] insideBoth = {0, 7};
        for (int a : insideBoth) {
            Check.due("simple(0, 0, " + a + ")", new FlowOptimiser().simple(0, 0, a), 0);
            Check.due("simple(1, 0, " + a + ")", new FlowOptimiser().simple(1, 0, a), 0);
        }
    }

    private static void simpleFull() {
        Check.by("2: Tested in this order: .. BAD_ARG; FULL");
        FlowOptimiser x = halts(20);
        Check.due("simple(0, 0, 0)", x.simple(0, 0, 0), FULL);
        Check.due("simple(1, 7, 7)", x.simple(1, 7, 7), FULL);
        Check.due("simple(2, 0, 0)", x.simple(2, 0, 0), BAD);
        Check.due("simple(-1, 0, 0)", x.simple(-1, 0, 0), BAD);
        Check.due("simple(0, 8, 0)", x.simple(0, 8, 0), BAD);
        Check.due("simple(0, 0, 51)", x.simple(0, 0, 51), BAD);
        Check.due("simple(1, -1, 0)", x.simple(1, -1, 0), BAD);
        Check.due("simple(1, 0, 8)", x.simple(1, 0, 8), BAD);
        Check.due("size()", x.size(), 20);
    }

    private static void simpleNumber() {
        Check.by("2: Otherwise its number");
        FlowOptimiser x = new FlowOptimiser();
        for (int i = 0; i < 20; i++) {
            Check.due("simple as instruction " + i, x.simple(i % 2, i % 8, i % 8), i);
        }
        Check.due("simple as instruction 20", x.simple(0, 0, 0), FULL);
    }

    private static void applyOps() {
        Check.by("3: op not 2 to 7 answers BAD_ARG");
        int[] bad = {LOW, -1, 0, 1, 8, 9, 10, 11, 12, HIGH};
        for (int op : bad) {
            Check.due("apply(" + op + ", 0, 0, 0)", new FlowOptimiser().apply(op, 0, 0, 0), BAD);
        }
        for (int op = 2; op <= 7; op++) {
            Check.due("apply(" + op + ", 0, 0, 0)", new FlowOptimiser().apply(op, 0, 0, 0), 0);
        }
    }

    private static void applyNames() {
        Check.by("3: d, a or b not 0 to 7 answers BAD_ARG");
        int[] bad = {LOW, -1, 8, HIGH};
        for (int op = 2; op <= 7; op++) {
            for (int n : bad) {
                Check.due("op " + op + ", d = " + n, new FlowOptimiser().apply(op, n, 0, 7), BAD);
                Check.due("op " + op + ", a = " + n, new FlowOptimiser().apply(op, 7, n, 0), BAD);
                Check.due("op " + op + ", b = " + n, new FlowOptimiser().apply(op, 0, 7, n), BAD);
            }
            for (int n = 0; n < 8; n++) {
                Check.due("op " + op + ", d = " + n, new FlowOptimiser().apply(op, n, 0, 7), 0);
                Check.due("op " + op + ", a = " + n, new FlowOptimiser().apply(op, 7, n, 0), 0);
                Check.due("op " + op + ", b = " + n, new FlowOptimiser().apply(op, 0, 7, n), 0);
            }
        }
    }

    private static void applyFull() {
        Check.by("3: Tested in this order: .. BAD_ARG; FULL");
        FlowOptimiser x = halts(20);
        for (int op = 2; op <= 7; op++) {
            Check.due("apply(" + op + ", 0, 0, 7)", x.apply(op, 0, 0, 7), FULL);
        }
        Check.due("apply(1, 0, 0, 0)", x.apply(1, 0, 0, 0), BAD);
        Check.due("apply(8, 0, 0, 0)", x.apply(8, 0, 0, 0), BAD);
        Check.due("apply(2, 8, 0, 0)", x.apply(2, 8, 0, 0), BAD);
        Check.due("apply(2, 0, 8, 0)", x.apply(2, 0, 8, 0), BAD);
        Check.due("apply(2, 0, 0, 8)", x.apply(2, 0, 0, 8), BAD);
        Check.due("size()", x.size(), 20);
    }

    private static void applyNumber() {
        Check.by("3: Otherwise its number");
        FlowOptimiser x = new FlowOptimiser();
        for (int i = 0; i < 20; i++) {
            Check.due("apply as instruction " + i, x.apply(2 + i % 6, i % 8, 0, 7), i);
        }
        Check.due("apply as instruction 20", x.apply(2, 0, 0, 0), FULL);
    }

    private static void jumpPlaces() {
        Check.by("4: l not 0 to 20 answers BAD_ARG");
        int[] bad = {LOW, -1, 21, HIGH};
        for (int l : bad) {
            Check.due("jump(" + l + ")", new FlowOptimiser().jump(l), BAD);
        }
        for (int l = 0; l <= 20; l++) {
            Check.due("jump(" + l + ")", new FlowOptimiser().jump(l), 0);
        }
    }

    private static void jumpFull() {
        Check.by("4: Tested in this order: .. BAD_ARG; FULL");
        FlowOptimiser x = halts(20);
        Check.due("jump(0)", x.jump(0), FULL);
        Check.due("jump(20)", x.jump(20), FULL);
        Check.due("jump(-1)", x.jump(-1), BAD);
        Check.due("jump(21)", x.jump(21), BAD);
        Check.due("size()", x.size(), 20);
    }

    private static void jumpNumber() {
        Check.by("4: Otherwise its number");
        FlowOptimiser x = new FlowOptimiser();
        for (int i = 0; i < 20; i++) {
            Check.due("jump as instruction " + i, x.jump(20 - i), i);
        }
        Check.due("jump as instruction 20", x.jump(0), FULL);
    }

    private static void branchNames() {
        Check.by("5: a not 0 to 7 answers BAD_ARG");
        int[] bad = {LOW, -1, 8, 20, HIGH};
        for (int a : bad) {
            Check.due("branch(" + a + ", 0)", new FlowOptimiser().branch(a, 0), BAD);
        }
        for (int a = 0; a < 8; a++) {
            Check.due("branch(" + a + ", 0)", new FlowOptimiser().branch(a, 0), 0);
        }
    }

    private static void branchPlaces() {
        Check.by("5: l not 0 to 20 answers BAD_ARG");
        int[] bad = {LOW, -1, 21, HIGH};
        for (int l : bad) {
            Check.due("branch(0, " + l + ")", new FlowOptimiser().branch(0, l), BAD);
        }
        for (int l = 0; l <= 20; l++) {
            Check.due("branch(7, " + l + ")", new FlowOptimiser().branch(7, l), 0);
        }
    }

    private static void branchFull() {
        Check.by("5: Tested in this order: .. BAD_ARG; FULL");
        FlowOptimiser x = halts(20);
        Check.due("branch(0, 0)", x.branch(0, 0), FULL);
        Check.due("branch(7, 20)", x.branch(7, 20), FULL);
        Check.due("branch(-1, 0)", x.branch(-1, 0), BAD);
        Check.due("branch(8, 0)", x.branch(8, 0), BAD);
        Check.due("branch(0, -1)", x.branch(0, -1), BAD);
        Check.due("branch(0, 21)", x.branch(0, 21), BAD);
        Check.due("size()", x.size(), 20);
    }

    private static void branchNumber() {
        Check.by("5: Otherwise its number");
        FlowOptimiser x = new FlowOptimiser();
        for (int i = 0; i < 20; i++) {
            Check.due("branch as instruction " + i, x.branch(i % 8, 20 - i), i);
        }
        Check.due("branch as instruction 20", x.branch(0, 0), FULL);
    }

    private static void outNames() {
        Check.by("6: a not 0 to 7 answers BAD_ARG");
        int[] bad = {LOW, -1, 8, HIGH};
        for (int a : bad) {
            Check.due("out(" + a + ")", new FlowOptimiser().out(a), BAD);
        }
        for (int a = 0; a < 8; a++) {
            Check.due("out(" + a + ")", new FlowOptimiser().out(a), 0);
        }
    }

    private static void outFull() {
        Check.by("6: Tested in this order: .. BAD_ARG; FULL");
        FlowOptimiser x = halts(20);
        Check.due("out(0)", x.out(0), FULL);
        Check.due("out(7)", x.out(7), FULL);
        Check.due("out(-1)", x.out(-1), BAD);
        Check.due("out(8)", x.out(8), BAD);
        Check.due("size()", x.size(), 20);
    }

    private static void outNumber() {
        Check.by("6: Otherwise its number");
        FlowOptimiser x = new FlowOptimiser();
        for (int i = 0; i < 20; i++) {
            Check.due("out as instruction " + i, x.out(i % 8), i);
        }
        Check.due("out as instruction 20", x.out(0), FULL);
    }

    private static void haltFull() {
        Check.by("7: FULL");
        FlowOptimiser x = new FlowOptimiser();
        for (int i = 0; i < 20; i++) {
            x.out(0);
        }
        Check.due("halt()", x.halt(), FULL);
        Check.due("size()", x.size(), 20);
        Check.due("the last one's op", x.drop(), 10);
        Check.due("halt() with room for one", x.halt(), 19);
        Check.due("halt() with no room again", x.halt(), FULL);
    }

    private static void haltNumber() {
        Check.by("7: Otherwise its number");
        FlowOptimiser x = new FlowOptimiser();
        for (int i = 0; i < 20; i++) {
            Check.due("halt as instruction " + i, x.halt(), i);
        }
        Check.due("halt as instruction 20", x.halt(), FULL);
    }

    private static void dropRemovesTheLast() {
        Check.by("8: Removes the last instruction");
        FlowOptimiser x = puttingOut(4, 5, 6);
        x.drop();
        Check.due("size()", x.size(), 2);
        Check.outputsDue("two of three are left", x, 4, 5);
        x.drop();
        Check.outputsDue("one of three is left", x, 4);
        x.drop();
        Check.outputsDue("none is left", x);
        Check.due("its number is free: out(2)", x.out(2), 0);
        Check.outputsDue("another one in its place", x, 6);
        FlowOptimiser full = halts(20);
        full.drop();
        Check.due("size() of one that was full", full.size(), 19);
        Check.due("room again: out(0)", full.out(0), 19);
        Check.due("and full again: out(0)", full.out(0), FULL);
    }

    private static void dropOfNone() {
        Check.by("8: NONE if there is none");
        FlowOptimiser x = new FlowOptimiser();
        Check.due("drop() of a new object", x.drop(), NONE);
        Check.due("drop() again", x.drop(), NONE);
        Check.due("size()", x.size(), 0);
        Check.due("halt() after it", x.halt(), 0);
        Check.due("drop() of the only one", x.drop(), 11);
        Check.due("drop() after the only one", x.drop(), NONE);
        x.halt();
        x.halt();
        x.clear();
        Check.due("drop() after clear()", x.drop(), NONE);
    }

    private static void dropAnswersTheOp() {
        Check.by("8: Otherwise its op");
        FlowOptimiser x = new FlowOptimiser();
        x.simple(0, 7, -50);
        Check.due("drop() of const", x.drop(), 0);
        x.simple(1, 7, 7);
        Check.due("drop() of copy", x.drop(), 1);
        for (int op = 2; op <= 7; op++) {
            x.apply(op, 7, 7, 7);
            Check.due("drop() of op " + op, x.drop(), op);
        }
        x.jump(20);
        Check.due("drop() of jump", x.drop(), 8);
        x.branch(7, 20);
        Check.due("drop() of branch", x.drop(), 9);
        x.out(7);
        Check.due("drop() of out", x.drop(), 10);
        x.halt();
        Check.due("drop() of halt", x.drop(), 11);
    }

    private static void clearRemovesAll() {
        Check.by("9: Removes all instructions");
        int[] sizes = {0, 1, 19, 20};
        for (int size : sizes) {
            FlowOptimiser x = halts(0);
            for (int i = 0; i < size; i++) {
                x.out(0);
            }
            x.clear();
            Check.due("size() after clear() of " + size, x.size(), 0);
            Check.runDue("after clear() of " + size, x, HALTED, 0, 0);
            Check.due("drop() after clear() of " + size, x.drop(), NONE);
            Check.due("out(0) after clear() of " + size, x.out(0), 0);
            Check.runDue("then one out", x, HALTED, 0, 1);
        }
        FlowOptimiser x = halts(20);
        x.clear();
        for (int i = 0; i < 20; i++) {
            Check.due("out(0) as instruction " + i, x.out(0), i);
        }
        Check.due("out(0) when full again", x.out(0), FULL);
    }

    private static void clearRemovesInstructionsAlone() {
        Check.by("9: Removes all instructions (the start values stay)");
        FlowOptimiser x = puttingOut(1, 2, 3, 4, 5, 6, 7, 8);
        x.clear();
        for (int n = 7; n >= 0; n--) {
            x.out(n);
        }
        Check.outputsDue("after clear()", x, 8, 7, 6, 5, 4, 3, 2, 1);
    }

    private static void sizeCounts() {
        Check.by("10: The number of instructions");
        FlowOptimiser x = new FlowOptimiser();
        for (int i = 0; i < 20; i++) {
            Check.due("size()", x.size(), i);
            x.jump(i);
        }
        Check.due("size() of 20", x.size(), 20);
        x.jump(0);
        Check.due("size() after a refused call", x.size(), 20);
        for (int i = 19; i >= 0; i--) {
            x.drop();
            Check.due("size() after drop()", x.size(), i);
        }
        x.drop();
        Check.due("size() after drop() of none", x.size(), 0);
    }

    private static void startBecomesX() {
        Check.by("11: The start value of number n becomes x");
        int[] values = {LOW, -51, -1, 0, 1, 51, HIGH};
        for (int n = 0; n < 8; n++) {
            FlowOptimiser x = puttingOut(9, 9, 9, 9, 9, 9, 9, 9);
            for (int value : values) {
                x.start(n, value);
                Check.due("start(" + n + ", " + value + "): output(" + n + ")", x.output(n), value);
            }
            x.start(n, 10);
            int[] want = {9, 9, 9, 9, 9, 9, 9, 9};
            want[n] = 10;
            Check.outputsDue("start(" + n + ", 10)", x, want);
        }
    }

    private static void startNames() {
        Check.by("11: BAD_ARG if n is not 0 to 7");
        int[] bad = {LOW, -8, -1, 8, 9, 16, HIGH};
        FlowOptimiser x = puttingOut(1, 2, 3, 4, 5, 6, 7, 8);
        for (int n : bad) {
            Check.due("start(" + n + ", 99)", x.start(n, 99), BAD);
        }
        Check.outputsDue("all start values", x, 1, 2, 3, 4, 5, 6, 7, 8);
    }

    private static void startAnswers0() {
        Check.by("11: Otherwise 0");
        int[] values = {LOW, -1, 0, 1, HIGH};
        for (int n = 0; n < 8; n++) {
            // Each value in the place of the one before it.
            FlowOptimiser x = new FlowOptimiser();
            for (int value : values) {
                Check.due("start(" + n + ", " + value + ")", x.start(n, value), 0);
            }
            Check.due("start(" + n + ", HIGH) again", x.start(n, HIGH), 0);
        }
        Check.due("start(0, 5) with a full program", halts(20).start(0, 5), 0);
    }

    private static void endingTellsHow() {
        Check.by("12: How the run ends");
        Check.due("no instruction: ending()", new FlowOptimiser().ending(), HALTED);
        Check.due("a halt: ending()", halts(1).ending(), HALTED);
        FlowOptimiser x = series(1, 1, 24);
        Check.due("24 numbers: ending()", x.ending(), HALTED);
        x.start(2, 25);
        Check.due("25 numbers: ending()", x.ending(), FULL_UP);
        x.start(2, 24);
        Check.due("24 numbers again: ending()", x.ending(), HALTED);
        x.clear();
        x.jump(0);
        Check.due("without end: ending()", x.ending(), TIRED);
        x.drop();
        Check.due("no instruction again: ending()", x.ending(), HALTED);
    }

    private static void outsCounts() {
        Check.by("13: How many numbers the run puts out");
        Check.due("none: outs()", halts(1).outs(), 0);
        FlowOptimiser x = series(5, 0, 1);
        for (int times = 1; times <= 24; times++) {
            x.start(2, times);
            Check.due(times + " numbers: outs()", x.outs(), times);
        }
        x.start(2, 25);
        Check.due("a 25th that would be: outs()", x.outs(), 24);
        x.start(2, 1);
        Check.due("one again: outs()", x.outs(), 1);
        x.jump(4);
        Check.due("one, then tired: outs()", x.outs(), 1);
    }

    private static void outputTellsTheKth() {
        Check.by("14: The k-th number that it puts out (0 is the first)");
        FlowOptimiser x = series(100, -7, 24);
        for (int k = 0; k < 24; k++) {
            Check.due("output(" + k + ")", x.output(k), 100 - 7 * k);
        }
        x.start(2, 30);
        Check.due("full up: output(0)", x.output(0), 100);
        Check.due("full up: output(23)", x.output(23), 100 - 7 * 23);
        FlowOptimiser y = puttingOut(LOW, HIGH);
        y.jump(2);
        Check.due("tired: output(0)", y.output(0), LOW);
        Check.due("tired: output(1)", y.output(1), HIGH);
    }

    private static void outputOfNone() {
        Check.by("14: 0 if there is none");
        int[] outside = {LOW, -24, -1, 24, 25, HIGH};
        FlowOptimiser full = series(100, 1, 25);
        FlowOptimiser one = puttingOut(9);
        FlowOptimiser none = new FlowOptimiser();
        for (int k : outside) {
            Check.due("of 24: output(" + k + ")", full.output(k), 0);
            Check.due("of 1: output(" + k + ")", one.output(k), 0);
            Check.due("of 0: output(" + k + ")", none.output(k), 0);
        }
        Check.due("of 1: output(1)", one.output(1), 0);
        Check.due("of 0: output(0)", none.output(0), 0);
        // What an earlier, longer run put out is no number of this one.
        full.start(2, 3);
        Check.due("of 3: output(2)", full.output(2), 102);
        for (int k = 3; k < 24; k++) {
            Check.due("of 3 after 24: output(" + k + ")", full.output(k), 0);
        }
        full.clear();
        Check.due("after clear(): output(0)", full.output(0), 0);
    }

    private static void digestSumsAll() {
        Check.by("15: The sum over all numbers put out, of (k + 1) times the k-th");
        Check.due("of none", halts(1).digest(), 0);
        Check.due("of one", puttingOut(-9).digest(), -9);
        Check.due("of three", puttingOut(3, -10, 500).digest(), 3 - 20 + 1500);
        Check.due("of 24 ones", series(1, 0, 24).digest(), 300);
        Check.due("of 24 ones, full up", series(1, 0, 25).digest(), 300);
        Check.due("of 1 to 24", series(1, 1, 24).digest(), 4900);
        FlowOptimiser x = series(1, 1, 24);
        x.digest();
        x.start(2, 2);
        Check.due("of two after 24", x.digest(), 5);
    }

    private static void digestWraps() {
        Check.by("15: The sum, wrapping");
        Check.due("HIGH + 2 * 1", puttingOut(HIGH, 1).digest(), LOW + 1);
        Check.due("LOW + 2 * -1", puttingOut(LOW, -1).digest(), HIGH - 1);
        Check.due("2 * HIGH", puttingOut(0, HIGH).digest(), -2);
        Check.due("2 * LOW", puttingOut(0, LOW).digest(), 0);
        Check.due("3 * LOW", puttingOut(0, 0, LOW).digest(), LOW);
        Check.due("300 * HIGH", series(HIGH, 0, 24).digest(), -300);
        Check.due("300 * 2 ^ 30", series(1 << 30, 0, 24).digest(), 0);
    }

    private static void backsCounts() {
        Check.by("16: How many times a jump or branch goes on at an instruction "
            + "whose number is not greater than its own");
        Check.due("no instruction", new FlowOptimiser().backs(), 0);
        for (int times = 1; times <= 24; times++) {
            Check.due(times + " times round", series(0, 0, times).backs(), times - 1);
        }
        FlowOptimiser x = new FlowOptimiser();
        x.start(0, 1);
        x.jump(1);
        x.branch(0, 2);
        x.branch(1, 0);
        x.branch(1, 3);
        x.jump(20);
        Check.due("only onwards, or not taken", x.backs(), 0);
        FlowOptimiser y = new FlowOptimiser();
        y.start(0, 1);
        y.jump(2);
        y.halt();
        y.jump(1);
        Check.due("one jump back", y.backs(), 1);
        y.drop();
        y.branch(0, 1);
        Check.due("one branch back", y.backs(), 1);
        Check.due("asked again", y.backs(), 1);
        FlowOptimiser full = series(0, 0, 30);
        Check.due("full up", full.backs(), 24);
    }

    private static void backsOfATiredRun() {
        Check.by("16: How many times in the run (at most 40: at the 41st it has ended)");
        FlowOptimiser x = new FlowOptimiser();
        x.jump(0);
        Check.due("jump to itself", x.backs(), 40);
        x.clear();
        x.start(0, 1);
        x.branch(0, 0);
        Check.due("branch to itself", x.backs(), 40);
        FlowOptimiser y = new FlowOptimiser();
        y.start(1, 1);
        y.apply(3, 0, 0, 1);
        y.branch(0, 0);
        int[] froms = {1, 2, 39, 40, 41, 42, 43};
        for (int from : froms) {
            y.start(0, from);
            Check.due("counting down from " + from, y.backs(), Math.min(from - 1, 40));
        }
    }

    private static void kindsCounts() {
        Check.by("17: How many different numbers the run puts out");
        Check.due("of none", halts(1).kinds(), 0);
        Check.due("of one 0", puttingOut(0).kinds(), 1);
        Check.due("of equal ones", puttingOut(5, 5, 5).kinds(), 1);
        Check.due("of two apart", puttingOut(5, 6, 5).kinds(), 2);
        Check.due("of the first and last equal", puttingOut(1, 2, 3, 4, 5, 6, 7, 1).kinds(), 7);
        Check.due("of x and -x", puttingOut(7, -7, 1, -1).kinds(), 4);
        Check.due("of the greatest and least", puttingOut(HIGH, LOW, HIGH, LOW, -1, 0).kinds(), 4);
        Check.due("of those far apart", puttingOut(0, 65536, 1 << 30, LOW).kinds(), 4);
        Check.due("of 24 different", series(-12, 1, 24).kinds(), 24);
        Check.due("of 24 equal", series(3, 0, 24).kinds(), 1);
        Check.due("of 24 and a 25th that would be", series(-12, 1, 25).kinds(), 24);
        FlowOptimiser x = series(-12, 1, 24);
        x.kinds();
        x.start(2, 2);
        Check.due("of two after 24", x.kinds(), 2);
    }
}
