/** Promises 12 to 17 and the rules of a run: how it ends, what it puts out, how often it goes back. */
public final class RunningTest {
    private static final int LOW = Integer.MIN_VALUE;
    private static final int HIGH = Integer.MAX_VALUE;

    public static void main(String[] args) {
        halting();
        placesBehindTheProgram();
        fullUpNeedsOneMore();
        tiredNeedsOneMore();
        tiredByBranch();
        jumpToItself();
        onlyTakenBranchesGoBack();
        forwardsIsNotBack();
        backsOfSeveralInstructionsAddUp();
        longestRun();
        fullUpOrTired();
        outputOutside();
        digestWeighsAndWraps();
        kindsCountsValues();
        runsChangeNothing();
        questionsFollowChanges();
        Check.end();
    }

    /** n0 counts down from its start value by 1 and the branch goes back while it isn't 0. */
    private static FlowOptimiser countdown(int from) {
        FlowOptimiser x = new FlowOptimiser();
        x.start(0, from);
        x.start(1, 1);
        x.apply(3, 0, 0, 1);
        x.branch(0, 0);
        return x;
    }

    private static void halting() {
        FlowOptimiser x = new FlowOptimiser();
        Check.runDue("no instruction", x, FlowOptimiser.HALTED, 0, 0);
        x.halt();
        x.jump(0);
        Check.runDue("halt at once", x, FlowOptimiser.HALTED, 0, 0);
        x.clear();
        for (int i = 0; i < 20; i++) {
            x.out(0);
        }
        Check.runDue("off the end of a full program", x, FlowOptimiser.HALTED, 0, 20);
    }

    private static void placesBehindTheProgram() {
        for (int l = 2; l <= 20; l++) {
            FlowOptimiser x = new FlowOptimiser();
            x.jump(l);
            x.out(0);
            Check.runDue("jump behind the end to " + l, x, FlowOptimiser.HALTED, 0, 0);
            x.clear();
            x.start(0, 1);
            x.branch(0, l);
            x.out(0);
            Check.runDue("branch behind the end to " + l, x, FlowOptimiser.HALTED, 0, 0);
        }
        FlowOptimiser x = new FlowOptimiser();
        x.jump(19);
        for (int i = 1; i < 19; i++) {
            x.halt();
        }
        x.out(0);
        Check.runDue("jump to the last of 20", x, FlowOptimiser.HALTED, 0, 1);
    }

    private static void fullUpNeedsOneMore() {
        FlowOptimiser x = new FlowOptimiser();
        x.start(0, 2);
        x.start(1, 1);
        for (int i = 0; i < 12; i++) {
            x.out(0);
        }
        x.apply(3, 0, 0, 1);
        x.branch(0, 0);
        Check.runDue("24 numbers and no more", x, FlowOptimiser.HALTED, 1, 24);
        x.out(0);
        Check.runDue("the 25th after the loop", x, FlowOptimiser.FULL_UP, 1, 24);
        Check.due("the 24th stays", x.output(23), 1);
        Check.due("the 25th isn't kept", x.output(24), 0);
        x.drop();
        x.halt();
        x.out(0);
        Check.runDue("halt before the 25th", x, FlowOptimiser.HALTED, 1, 24);
        x.start(0, 3);
        Check.runDue("a third time round", x, FlowOptimiser.FULL_UP, 2, 24);
    }

    private static void tiredNeedsOneMore() {
        Check.runDue("39 times back", countdown(40), FlowOptimiser.HALTED, 39, 0);
        Check.runDue("40 times back", countdown(41), FlowOptimiser.HALTED, 40, 0);
        Check.runDue("41 times back", countdown(42), FlowOptimiser.TIRED, 40, 0);
        Check.runDue("without end", countdown(0), FlowOptimiser.TIRED, 40, 0);
        FlowOptimiser x = countdown(41);
        x.out(0);
        Check.outputsDue("goes on after 40 times back", x, 0);
        x.start(0, 42);
        Check.outputsDue("does not go on when tired", x);
    }

    private static void tiredByBranch() {
        FlowOptimiser x = new FlowOptimiser();
        x.start(5, -9);
        x.branch(5, 0);
        x.out(5);
        Check.runDue("branch to itself", x, FlowOptimiser.TIRED, 40, 0);
        x.start(5, 0);
        Check.runDue("branch to itself not taken", x, FlowOptimiser.HALTED, 0, 1);
    }

    private static void jumpToItself() {
        FlowOptimiser x = new FlowOptimiser();
        x.out(0);
        x.jump(1);
        Check.runDue("jump to itself", x, FlowOptimiser.TIRED, 40, 1);
    }

    private static void onlyTakenBranchesGoBack() {
        FlowOptimiser x = new FlowOptimiser();
        for (int i = 0; i < 20; i++) {
            x.branch(0, 0);
        }
        Check.runDue("20 branches back, none taken", x, FlowOptimiser.HALTED, 0, 0);
    }

    private static void forwardsIsNotBack() {
        FlowOptimiser x = new FlowOptimiser();
        x.start(0, 1);
        for (int i = 0; i < 10; i++) {
            x.jump(2 * i + 1);
            x.branch(0, 2 * i + 2);
        }
        Check.runDue("to the next one each time", x, FlowOptimiser.HALTED, 0, 0);
    }

    private static void backsOfSeveralInstructionsAddUp() {
        FlowOptimiser x = new FlowOptimiser();
        x.start(0, 20);
        x.start(1, 1);
        x.jump(2);
        x.jump(4);
        x.apply(3, 0, 0, 1);
        x.jump(1);
        x.branch(0, 2);
        Check.runDue("jump and branch together", x, FlowOptimiser.HALTED, 39, 0);
        x.start(0, 21);
        Check.runDue("tired at the branch or the jump", x, FlowOptimiser.TIRED, 40, 0);
    }

    private static void longestRun() {
        FlowOptimiser x = new FlowOptimiser();
        x.start(1, 1);
        for (int i = 0; i < 18; i++) {
            x.apply(2, 0, 0, 1);
        }
        x.branch(7, 0);
        x.jump(0);
        Check.runDue("820 steps", x, FlowOptimiser.TIRED, 40, 0);
        // The same length with an end: 40 times back, and the last stretch runs to its end.
        x.clear();
        x.start(0, 41);
        x.apply(3, 0, 0, 1);
        for (int i = 0; i < 18; i++) {
            x.apply(2, 2, 2, 1);
        }
        x.branch(0, 0);
        Check.runDue("820 steps with an end", x, FlowOptimiser.HALTED, 40, 0);
        x.clear();
        x.apply(3, 0, 0, 1);
        for (int i = 0; i < 16; i++) {
            x.apply(2, 2, 2, 1);
        }
        x.branch(0, 0);
        x.out(2);
        x.out(0);
        Check.outputsDue("all steps are done", x, 656, 0);
    }

    private static void fullUpOrTired() {
        FlowOptimiser x = new FlowOptimiser();
        x.out(0);
        x.jump(0);
        Check.runDue("full up before tired", x, FlowOptimiser.FULL_UP, 24, 24);
        x.clear();
        x.start(1, 17);
        x.start(2, 1);
        x.apply(3, 1, 1, 2);
        x.branch(1, 0);
        x.out(0);
        x.jump(2);
        Check.runDue("the 40th time back comes before the 25th number", x, FlowOptimiser.FULL_UP, 40, 24);
        x.start(1, 18);
        Check.runDue("tired with 24 numbers put out", x, FlowOptimiser.TIRED, 40, 24);
        x.start(1, 19);
        Check.runDue("tired with 23 numbers put out", x, FlowOptimiser.TIRED, 40, 23);
    }

    private static void outputOutside() {
        FlowOptimiser x = new FlowOptimiser();
        x.start(0, 9);
        x.out(0);
        x.out(0);
        int[] outside = {LOW, -1, 2, 3, 23, 24, 25, HIGH};
        for (int k : outside) {
            Check.due("output(" + k + ")", x.output(k), 0);
        }
        Check.due("output(0)", x.output(0), 9);
        Check.due("output(1)", x.output(1), 9);
        x.drop();
        Check.due("output(1) of an earlier program", x.output(1), 0);
    }

    private static void digestWeighsAndWraps() {
        FlowOptimiser x = new FlowOptimiser();
        x.start(0, 3);
        x.start(1, -10);
        x.start(2, 500);
        x.out(0);
        x.out(1);
        x.out(2);
        Check.due("digest()", x.digest(), 3 - 20 + 1500);
        x.start(0, HIGH);
        Check.due("digest() with a sum that wraps", x.digest(), HIGH + 1480);
        x.start(0, 0);
        x.start(1, HIGH);
        x.start(2, 0);
        Check.due("digest() with a product that wraps", x.digest(), -2);
        x.start(1, LOW);
        x.start(2, LOW);
        Check.due("digest() of the least ints", x.digest(), LOW);
        x.clear();
        x.start(0, 1);
        x.out(0);
        x.jump(0);
        Check.due("digest() of 24 ones", x.digest(), 300);
    }

    private static void kindsCountsValues() {
        FlowOptimiser x = new FlowOptimiser();
        for (int n = 0; n < 8; n++) {
            x.out(n);
        }
        Check.due("kinds() of equal numbers", x.kinds(), 1);
        int[] values = {1, -1, 1, 0, -1, LOW, HIGH, LOW};
        for (int n = 0; n < 8; n++) {
            x.start(n, values[n]);
        }
        Check.due("kinds() of some equal numbers", x.kinds(), 5);
        for (int n = 0; n < 8; n++) {
            x.start(n, n << 16);
        }
        Check.due("kinds() of different numbers", x.kinds(), 8);
        x.clear();
        Check.due("kinds() of none", x.kinds(), 0);
        x.simple(0, 1, 1);
        x.out(0);
        x.apply(2, 0, 0, 1);
        x.jump(1);
        Check.due("kinds() of 24 numbers", x.kinds(), 24);
    }

    private static void runsChangeNothing() {
        FlowOptimiser x = new FlowOptimiser();
        x.start(0, 5);
        x.apply(2, 0, 0, 0);
        x.out(0);
        for (int i = 0; i < 3; i++) {
            Check.dueText("asked again", Check.told(x), "size 2 ending 0 backs 0 kinds 1 digest 10 outs 10");
        }
        x.clear();
        x.out(0);
        Check.outputsDue("the start value is as it was", x, 5);
    }

    private static void questionsFollowChanges() {
        FlowOptimiser x = new FlowOptimiser();
        x.out(0);
        Check.due("kinds() at first", x.kinds(), 1);
        x.out(1);
        x.start(1, 4);
        Check.due("kinds() after a change", x.kinds(), 2);
        Check.due("digest() after a change", x.digest(), 8);
        x.jump(2);
        Check.due("ending() after a change", x.ending(), FlowOptimiser.TIRED);
        Check.due("backs() after a change", x.backs(), 40);
        x.drop();
        Check.due("backs() after a drop", x.backs(), 0);
        Check.due("ending() after a drop", x.ending(), FlowOptimiser.HALTED);
        x.clear();
        Check.due("outs() after clear", x.outs(), 0);
        Check.due("output(0) after clear", x.output(0), 0);
    }
}
