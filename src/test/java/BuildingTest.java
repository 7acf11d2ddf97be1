/** Promises 1 to 11: what a new object is, appending, removing, and the start values. */
public final class BuildingTest {
    private static final int LOW = Integer.MIN_VALUE;
    private static final int HIGH = Integer.MAX_VALUE;
    private static final int BAD = FlowOptimiser.BAD_ARG;
    private static final int FULL = FlowOptimiser.FULL;

    public static void main(String[] args) {
        newObject();
        simpleRanges();
        simpleWorks();
        applyRanges();
        applyWorks();
        jumpRangesAndWorks();
        branchRangesAndWorks();
        outRangesAndWorks();
        haltWorks();
        fullProgram();
        refusalsChangeNothing();
        dropAnswersOps();
        droppedInstructionsAreGone();
        clearKeepsStartValues();
        startRangesAndWorks();
        objectsAreApart();
        Check.end();
    }

    private static FlowOptimiser filled(int instructions) {
        FlowOptimiser x = new FlowOptimiser();
        for (int i = 0; i < instructions; i++) {
            Check.due("filling with out", x.out(i % 8), i);
        }
        return x;
    }

    private static void newObject() {
        FlowOptimiser x = new FlowOptimiser();
        Check.due("new: size()", x.size(), 0);
        Check.due("new: drop()", x.drop(), FlowOptimiser.NONE);
        Check.dueText("new", Check.told(x), "size 0 ending 0 backs 0 kinds 0 digest 0 outs");
        Check.outputsDue("new: start values", filled(8), 0, 0, 0, 0, 0, 0, 0, 0);
    }

    private static void simpleRanges() {
        int[] badOps = {LOW, -1, 2, 3, 7, 8, 11, HIGH};
        int[] badNumbers = {LOW, -1, 8, 9, 50, HIGH};
        int[] badConstants = {LOW, -51, 51, HIGH};
        FlowOptimiser x = new FlowOptimiser();
        for (int op : badOps) {
            Check.due("simple(" + op + ", 0, 0)", x.simple(op, 0, 0), BAD);
        }
        for (int n : badNumbers) {
            Check.due("simple(0, " + n + ", 0)", x.simple(0, n, 0), BAD);
            Check.due("simple(1, " + n + ", 0)", x.simple(1, n, 0), BAD);
            Check.due("simple(1, 0, " + n + ")", x.simple(1, 0, n), BAD);
        }
        for (int k : badConstants) {
            Check.due("simple(0, 0, " + k + ")", x.simple(0, 0, k), BAD);
        }
        Check.due("size() after wrong simples", x.size(), 0);
        Check.due("simple(0, 0, -50)", x.simple(0, 0, -50), 0);
        Check.due("simple(0, 7, 50)", x.simple(0, 7, 50), 1);
        Check.due("simple(0, 3, 8)", x.simple(0, 3, 8), 2);
        Check.due("simple(1, 7, 0)", x.simple(1, 7, 0), 3);
        Check.due("simple(1, 0, 7)", x.simple(1, 0, 7), 4);
        Check.due("size() after simples", x.size(), 5);
    }

    private static void simpleWorks() {
        FlowOptimiser x = new FlowOptimiser();
        x.start(5, HIGH);
        x.simple(0, 0, -50);
        x.simple(0, 7, 50);
        x.simple(1, 3, 5);
        x.simple(1, 5, 7);
        x.simple(1, 2, 2);
        for (int n = 0; n < 8; n++) {
            x.out(n);
        }
        Check.outputsDue("const and copy", x, -50, 0, 0, HIGH, 0, 50, 0, 50);
    }

    private static void applyRanges() {
        int[] badOps = {LOW, -1, 0, 1, 8, 9, 10, 11, HIGH};
        int[] badNumbers = {LOW, -1, 8, HIGH};
        FlowOptimiser x = new FlowOptimiser();
        for (int op : badOps) {
            Check.due("apply(" + op + ", 0, 0, 0)", x.apply(op, 0, 0, 0), BAD);
        }
        for (int n : badNumbers) {
            Check.due("apply(2, " + n + ", 0, 0)", x.apply(2, n, 0, 0), BAD);
            Check.due("apply(2, 0, " + n + ", 0)", x.apply(2, 0, n, 0), BAD);
            Check.due("apply(7, 0, 0, " + n + ")", x.apply(7, 0, 0, n), BAD);
        }
        Check.due("size() after wrong applies", x.size(), 0);
        for (int op = 2; op <= 7; op++) {
            Check.due("apply(" + op + ", 7, 0, 7)", x.apply(op, 7, 0, 7), op - 2);
        }
    }

    private static void applyWorks() {
        int[] values = {0, 1, -1, 2, 7, -50, 0x5555, 46341, 65536, LOW, LOW + 1, HIGH};
        for (int left : values) {
            for (int right : values) {
                int[] want = {left + right, left - right, left * right,
                    left & right, left ^ right, left < right ? 1 : 0};
                for (int op = 2; op <= 7; op++) {
                    applied(op, left, right, want[op - 2]);
                }
            }
        }
        int[] withItself = {14, 0, 49, 7, 0, 0};
        for (int op = 2; op <= 7; op++) {
            FlowOptimiser x = new FlowOptimiser();
            x.start(4, 7);
            x.apply(op, 4, 4, 4);
            x.out(4);
            Check.outputsDue("op " + op + " with d, a and b the same", x, withItself[op - 2]);
        }
    }

    private static void applied(int op, int left, int right, int want) {
        String what = "op " + op + " of " + left + " and " + right;
        int[] targets = {6, 1, 2};
        for (int d : targets) {
            FlowOptimiser x = new FlowOptimiser();
            x.start(1, left);
            x.start(2, right);
            x.apply(op, d, 1, 2);
            x.out(d);
            x.out(1);
            x.out(2);
            Check.outputsDue(what + " into " + d, x, want, d == 1 ? want : left, d == 2 ? want : right);
        }
    }

    private static void jumpRangesAndWorks() {
        FlowOptimiser x = new FlowOptimiser();
        int[] bad = {LOW, -1, 21, 22, HIGH};
        for (int l : bad) {
            Check.due("jump(" + l + ")", x.jump(l), BAD);
        }
        Check.due("size() after wrong jumps", x.size(), 0);
        Check.due("jump(20)", x.jump(20), 0);
        Check.due("jump(0)", x.jump(0), 1);
        Check.due("ending() after a jump behind the end", x.ending(), FlowOptimiser.HALTED);
        Check.due("backs() after a jump behind the end", x.backs(), 0);
        x.clear();
        x.simple(0, 0, 1);
        x.jump(3);
        x.simple(0, 0, 2);
        x.out(0);
        Check.outputsDue("jump over one", x, 1);
    }

    private static void branchRangesAndWorks() {
        FlowOptimiser x = new FlowOptimiser();
        int[] badNumbers = {LOW, -1, 8, HIGH};
        int[] badPlaces = {LOW, -1, 21, HIGH};
        for (int a : badNumbers) {
            Check.due("branch(" + a + ", 0)", x.branch(a, 0), BAD);
        }
        for (int l : badPlaces) {
            Check.due("branch(0, " + l + ")", x.branch(0, l), BAD);
        }
        Check.due("size() after wrong branches", x.size(), 0);
        Check.due("branch(7, 2)", x.branch(7, 2), 0);
        Check.due("out(6)", x.out(6), 1);
        Check.due("out(7)", x.out(7), 2);
        Check.due("branch(0, 20)", x.branch(0, 20), 3);
        Check.outputsDue("branch not taken", x, 0, 0);
        int[] taken = {1, -1, 2, LOW, HIGH};
        for (int value : taken) {
            x.start(7, value);
            Check.outputsDue("branch taken for " + value, x, value);
        }
        x.start(7, 0);
        x.start(6, 3);
        Check.outputsDue("branch looks at its own number", x, 3, 0);
    }

    private static void outRangesAndWorks() {
        FlowOptimiser x = new FlowOptimiser();
        int[] bad = {LOW, -1, 8, HIGH};
        for (int a : bad) {
            Check.due("out(" + a + ")", x.out(a), BAD);
        }
        Check.due("size() after wrong outs", x.size(), 0);
        x = filled(8);
        for (int n = 0; n < 8; n++) {
            x.start(n, 100 - n);
        }
        Check.outputsDue("out of each number", x, 100, 99, 98, 97, 96, 95, 94, 93);
    }

    private static void haltWorks() {
        FlowOptimiser x = new FlowOptimiser();
        Check.due("out(0)", x.out(0), 0);
        Check.due("halt()", x.halt(), 1);
        Check.due("out(0)", x.out(0), 2);
        Check.outputsDue("nothing after halt", x, 0);
        Check.due("ending() at halt", x.ending(), FlowOptimiser.HALTED);
        x = filled(0);
        for (int i = 0; i < 20; i++) {
            Check.due("halt() number " + i, x.halt(), i);
        }
        Check.due("halt() when full", x.halt(), FULL);
    }

    private static void fullProgram() {
        FlowOptimiser x = filled(20);
        String before = Check.told(x);
        Check.due("full: simple(0, 0, 0)", x.simple(0, 0, 0), FULL);
        Check.due("full: simple(1, 0, 0)", x.simple(1, 0, 0), FULL);
        Check.due("full: apply(2, 0, 0, 0)", x.apply(2, 0, 0, 0), FULL);
        Check.due("full: jump(0)", x.jump(0), FULL);
        Check.due("full: branch(0, 0)", x.branch(0, 0), FULL);
        Check.due("full: out(0)", x.out(0), FULL);
        Check.due("full: halt()", x.halt(), FULL);
        // BAD_ARG is tested before FULL.
        Check.due("full: simple(2, 0, 0)", x.simple(2, 0, 0), BAD);
        Check.due("full: simple(0, 8, 0)", x.simple(0, 8, 0), BAD);
        Check.due("full: simple(0, 0, 51)", x.simple(0, 0, 51), BAD);
        Check.due("full: simple(1, 0, 8)", x.simple(1, 0, 8), BAD);
        Check.due("full: apply(8, 0, 0, 0)", x.apply(8, 0, 0, 0), BAD);
        Check.due("full: apply(2, 0, 0, 8)", x.apply(2, 0, 0, 8), BAD);
        Check.due("full: jump(21)", x.jump(21), BAD);
        Check.due("full: branch(0, 21)", x.branch(0, 21), BAD);
        Check.due("full: branch(8, 0)", x.branch(8, 0), BAD);
        Check.due("full: out(8)", x.out(8), BAD);
        Check.dueText("full after refusals", Check.told(x), before);
        Check.due("full: start(0, 5)", x.start(0, 5), 0);
        Check.due("full: drop()", x.drop(), 10);
        Check.due("room again: jump(20)", x.jump(20), 19);
        Check.due("full again: jump(20)", x.jump(20), FULL);
    }

    private static void refusalsChangeNothing() {
        FlowOptimiser x = filled(8);
        for (int n = 0; n < 8; n++) {
            x.start(n, n * n - 3);
        }
        String before = Check.told(x);
        x.simple(2, 0, 0);
        x.simple(0, 0, 51);
        x.simple(1, -1, 0);
        x.apply(1, 0, 0, 0);
        x.apply(2, 0, 8, 0);
        x.jump(21);
        x.branch(-1, 0);
        x.branch(0, -1);
        x.out(8);
        x.start(8, 77);
        x.start(-1, 77);
        Check.dueText("after refused calls", Check.told(x), before);
        x.clear();
        Check.due("drop() of nothing", x.drop(), FlowOptimiser.NONE);
        Check.due("size() after it", x.size(), 0);
        Check.due("out(0) after it", x.out(0), 0);
    }

    private static void dropAnswersOps() {
        FlowOptimiser x = new FlowOptimiser();
        x.simple(0, 1, 2);
        x.simple(1, 1, 2);
        for (int op = 2; op <= 7; op++) {
            x.apply(op, 1, 2, 3);
        }
        x.jump(4);
        x.branch(1, 4);
        x.out(1);
        x.halt();
        for (int op = 11; op >= 0; op--) {
            Check.due("size() before drop", x.size(), op + 1);
            Check.due("drop()", x.drop(), op);
        }
        Check.due("size() at last", x.size(), 0);
        Check.due("drop() of nothing", x.drop(), FlowOptimiser.NONE);
        Check.due("drop() of nothing again", x.drop(), FlowOptimiser.NONE);
    }

    private static void droppedInstructionsAreGone() {
        FlowOptimiser x = filled(3);
        x.start(0, 4);
        x.start(2, 6);
        Check.outputsDue("before drop", x, 4, 0, 6);
        x.drop();
        Check.outputsDue("after drop", x, 4, 0);
        Check.due("simple after drop", x.simple(1, 7, 2), 2);
        Check.due("out after drop", x.out(7), 3);
        Check.outputsDue("another in its place", x, 4, 0, 6);
    }

    private static void clearKeepsStartValues() {
        FlowOptimiser x = filled(20);
        x.start(3, 33);
        x.clear();
        Check.dueText("after clear", Check.told(x), "size 0 ending 0 backs 0 kinds 0 digest 0 outs");
        Check.due("drop() after clear", x.drop(), FlowOptimiser.NONE);
        Check.due("out(3) after clear", x.out(3), 0);
        Check.outputsDue("start values stay", x, 33);
        x.clear();
        x.clear();
        Check.due("size() after clear of nothing", x.size(), 0);
    }

    private static void startRangesAndWorks() {
        FlowOptimiser x = filled(8);
        int[] bad = {LOW, -1, 8, 9, HIGH};
        for (int n : bad) {
            Check.due("start(" + n + ", 1)", x.start(n, 1), BAD);
        }
        Check.outputsDue("wrong starts", x, 0, 0, 0, 0, 0, 0, 0, 0);
        int[] values = {LOW, -1, 0, 1, 51, HIGH, 8, -4};
        for (int n = 0; n < 8; n++) {
            Check.due("start(" + n + ", " + values[n] + ")", x.start(n, values[n]), 0);
        }
        Check.outputsDue("starts", x, values);
        Check.due("start(0, 2)", x.start(0, 2), 0);
        Check.due("start(0, 3)", x.start(0, 3), 0);
        Check.due("the later start counts", x.output(0), 3);
    }

    private static void objectsAreApart() {
        FlowOptimiser x = new FlowOptimiser();
        FlowOptimiser y = new FlowOptimiser();
        x.start(0, 5);
        x.out(0);
        Check.due("the other one's size()", y.size(), 0);
        y.out(0);
        Check.outputsDue("the other one", y, 0);
        Check.outputsDue("this one", x, 5);
    }
}
