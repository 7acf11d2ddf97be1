/** Programs of simple steps over eight numbers, with jumps, and what they put out. */
public final class FlowOptimiser {
    public static final int BAD_ARG = -1;
    public static final int FULL = -2;
    public static final int NONE = -4;
    public static final int HALTED = 0;
    public static final int FULL_UP = 1;
    public static final int TIRED = 2;

    private static final int CONST = 0;
    private static final int COPY = 1;
    private static final int ADD = 2;
    private static final int SUB = 3;
    private static final int MUL = 4;
    private static final int AND = 5;
    private static final int XOR = 6;
    private static final int LESS = 7;
    private static final int JUMP = 8;
    private static final int BRANCH = 9;
    private static final int OUT = 10;
    private static final int HALT = 11;

    private static final int MAX_SIZE = 20;
    private static final int NUMBERS = 8;
    private static final int MAX_K = 50;
    private static final int MAX_OUTS = 24;
    private static final int MAX_BACKS = 40;
    // Between two goings back the instruction's number only grows, so each of
    // the MAX_BACKS + 1 stretches of a run has at most MAX_SIZE steps.
    private static final int MAX_STEPS = (MAX_BACKS + 1) * MAX_SIZE;

    // The program. Arrays bear the letters of the document's table; a const
    // keeps its k in aOf, as simple takes it.
    private final int[] opOf = new int[MAX_SIZE];
    private final int[] dOf = new int[MAX_SIZE];
    private final int[] aOf = new int[MAX_SIZE];
    private final int[] bOf = new int[MAX_SIZE];
    private final int[] lOf = new int[MAX_SIZE];
    private int count;
    private final int[] startValues = new int[NUMBERS];

    // The latest run. Every question about the run makes it anew, so nothing
    // here outlives a change of the program or of the start values.
    private final int[] numbers = new int[NUMBERS];
    private final int[] outputs = new int[MAX_OUTS];
    private int outCount;
    private int backCount;
    private int at;
    private boolean running;
    private int howEnded;

    public FlowOptimiser() {
        count = 0;
    }

    public int simple(int op, int d, int a) {
        if (op != CONST && op != COPY) {
            return BAD_ARG;
        }
        boolean fits = op == CONST ? isConstant(a) : isNumber(a);
        if (!isNumber(d) || !fits) {
            return BAD_ARG;
        }
        return append(op, d, a, 0, 0);
    }

    public int apply(int op, int d, int a, int b) {
        if (op < ADD || op > LESS) {
            return BAD_ARG;
        }
        if (!isNumber(d) || !isNumber(a) || !isNumber(b)) {
            return BAD_ARG;
        }
        return append(op, d, a, b, 0);
    }

    public int jump(int l) {
        if (!isPlace(l)) {
            return BAD_ARG;
        }
        return append(JUMP, 0, 0, 0, l);
    }

    public int branch(int a, int l) {
        if (!isNumber(a) || !isPlace(l)) {
            return BAD_ARG;
        }
        return append(BRANCH, 0, a, 0, l);
    }

    public int out(int a) {
        if (!isNumber(a)) {
            return BAD_ARG;
        }
        return append(OUT, 0, a, 0, 0);
    }

    public int halt() {
        return append(HALT, 0, 0, 0, 0);
    }

    public int drop() {
        if (count == 0) {
            return NONE;
        }
        count--;
        return opOf[count];
    }

    public void clear() {
        count = 0;
    }

    public int size() {
        return count;
    }

    public int start(int n, int x) {
        if (!isNumber(n)) {
            return BAD_ARG;
        }
        startValues[n] = x;
        return 0;
    }

    public int ending() {
        run();
        return howEnded;
    }

    public int outs() {
        run();
        return outCount;
    }

    public int output(int k) {
        run();
        if (k < 0 || k >= outCount) {
            return 0;
        }
        return outputs[k];
    }

    public int digest() {
        run();
        int sum = 0;
        for (int k = 0; k < outCount; k++) {
            sum += (k + 1) * outputs[k];
        }
        return sum;
    }

    public int backs() {
        run();
        return backCount;
    }

    public int kinds() {
        run();
        int different = 0;
        for (int k = 0; k < outCount; k++) {
            if (isFirstOfItsKind(k)) {
                different++;
            }
        }
        return different;
    }

    private static boolean isNumber(int n) {
        return n >= 0 && n < NUMBERS;
    }

    private static boolean isConstant(int k) {
        return k >= -MAX_K && k <= MAX_K;
    }

    // The place just behind a full program can be named: going there halts.
    private static boolean isPlace(int l) {
        return l >= 0 && l <= MAX_SIZE;
    }

    private int append(int op, int d, int a, int b, int l) {
        if (count >= MAX_SIZE) {
            return FULL;
        }
        opOf[count] = op;
        dOf[count] = d;
        aOf[count] = a;
        bOf[count] = b;
        lOf[count] = l;
        count++;
        return count - 1;
    }

    private boolean isFirstOfItsKind(int k) {
        for (int earlier = 0; earlier < k; earlier++) {
            if (outputs[earlier] == outputs[k]) {
                return false;
            }
        }
        return true;
    }

    private void run() {
        beginRun();
        for (int steps = 0; steps < MAX_STEPS && running && at < count; steps++) {
            step();
        }
    }

    private void beginRun() {
        for (int n = 0; n < NUMBERS; n++) {
            numbers[n] = startValues[n];
        }
        outCount = 0;
        backCount = 0;
        at = 0;
        running = true;
        // Leaving the program's end sets nothing, so this stands from the outset.
        howEnded = HALTED;
    }

    private void step() {
        switch (opOf[at]) {
            case JUMP:
                goOnAt(lOf[at]);
                break;
            case BRANCH:
                if (numbers[aOf[at]] != 0) {
                    goOnAt(lOf[at]);
                } else {
                    at++;
                }
                break;
            case OUT:
                putOut(numbers[aOf[at]]);
                break;
            case HALT:
                endRun(HALTED);
                break;
            default:
                numbers[dOf[at]] = computed();
                at++;
                break;
        }
    }

    private int computed() {
        int a = aOf[at];
        // A const's a is no number's name and must not be used as an index.
        if (opOf[at] == CONST) {
            return a;
        }
        int left = numbers[a];
        int right = numbers[bOf[at]];
        switch (opOf[at]) {
            case ADD:
                return left + right;
            case SUB:
                return left - right;
            case MUL:
                return left * right;
            case AND:
                return left & right;
            case XOR:
                return left ^ right;
            case LESS:
                return left < right ? 1 : 0;
            default:
                return left;
        }
    }

    private void goOnAt(int l) {
        if (l > at) {
            at = l;
        } else if (backCount >= MAX_BACKS) {
            endRun(TIRED);
        } else {
            backCount++;
            at = l;
        }
    }

    private void putOut(int value) {
        if (outCount >= MAX_OUTS) {
            endRun(FULL_UP);
        } else {
            outputs[outCount] = value;
            outCount++;
            at++;
        }
    }

    private void endRun(int how) {
        howEnded = how;
        running = false;
    }
}
