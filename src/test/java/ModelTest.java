import java.util.ArrayList;
import java.util.Arrays;
import java.util.HashSet;
import java.util.List;

/**
 * Long runs of calls against a second, differently written reading of the document.
 * The calls come from a fixed sequence, so every run of this test is the same.
 */
public final class ModelTest {
    private static final int OBJECTS = 6000;
    // With the questions of every comparison, at most 30, this stays below the
    // 512 calls that the document promises an object.
    private static final int CALLS = 100;
    private static final int[] endings = new int[3];
    private static long seed = 20261115L;

    private final FlowOptimiser real = new FlowOptimiser();
    private final List<int[]> program = new ArrayList<>();
    private final int[] starts = new int[8];

    public static void main(String[] args) {
        for (int i = 0; i < OBJECTS; i++) {
            ModelTest test = new ModelTest();
            int kind = below(3);
            for (int call = 0; call < CALLS; call++) {
                test.change(kind);
                if (call % 8 == 7) {
                    test.compare("object " + i + ", call " + call);
                }
            }
        }
        for (int ending = 0; ending < 3; ending++) {
            Check.due("runs that end with " + ending + " are many", Math.min(endings[ending], 1000), 1000);
        }
        Check.end();
    }

    private static int below(int bound) {
        seed = seed * 6364136223846793005L + 1442695040888963407L;
        return (int) ((seed >>> 33) % bound);
    }

    private static int number() {
        return below(40) == 0 ? below(12) - 2 : below(8);
    }

    private static int place() {
        return below(40) == 0 ? below(26) - 2 : below(21);
    }

    private static int value() {
        int[] special = {Integer.MIN_VALUE, Integer.MAX_VALUE, -1, 1, 0};
        return below(3) == 0 ? special[below(5)] : below(41) - 20;
    }

    private static boolean in(int x, int low, int high) {
        return low <= x && x <= high;
    }

    /** One changing call; the kind says how often the program jumps and puts out. */
    private void change(int kind) {
        int choice = below(24 + 4 * kind);
        if (choice < 4) {
            simple();
        } else if (choice < 10) {
            apply();
        } else if (choice < 11) {
            int l = place();
            appended("jump", real.jump(l), in(l, 0, 20), 8, 0, 0, 0, l);
        } else if (choice < 13) {
            drop();
        } else if (choice < 14) {
            if (below(6) == 0) {
                real.clear();
                program.clear();
            }
        } else if (choice < 15) {
            if (below(4) == 0) {
                appended("halt", real.halt(), true, 11, 0, 0, 0, 0);
            }
        } else if (choice < 18) {
            start();
        } else if (choice < 24) {
            int a = number();
            int l = place();
            appended("branch", real.branch(a, l), in(a, 0, 7) && in(l, 0, 20), 9, 0, a, 0, l);
        } else {
            int a = number();
            appended("out", real.out(a), in(a, 0, 7), 10, 0, a, 0, 0);
        }
    }

    private void simple() {
        int op = below(30) == 0 ? below(5) - 1 : below(2);
        int d = number();
        int a = op == 0 ? below(105) - 52 : number();
        boolean good = in(op, 0, 1) && in(d, 0, 7) && (op == 0 ? in(a, -50, 50) : in(a, 0, 7));
        appended("simple", real.simple(op, d, a), good, op, d, a, 0, 0);
    }

    private void apply() {
        int op = below(30) == 0 ? below(13) : 2 + below(6);
        int d = number();
        int a = number();
        int b = number();
        boolean good = in(op, 2, 7) && in(d, 0, 7) && in(a, 0, 7) && in(b, 0, 7);
        appended("apply", real.apply(op, d, a, b), good, op, d, a, b, 0);
    }

    private void appended(String call, int got, boolean good, int... instruction) {
        int want = !good ? -1 : program.size() == 20 ? -2 : program.size();
        Check.due(call + Arrays.toString(instruction), got, want);
        if (want >= 0) {
            program.add(instruction);
        }
    }

    private void drop() {
        int want = program.isEmpty() ? -4 : program.remove(program.size() - 1)[0];
        Check.due("drop()", real.drop(), want);
    }

    private void start() {
        int n = number();
        int x = value();
        Check.due("start(" + n + ", " + x + ")", real.start(n, x), in(n, 0, 7) ? 0 : -1);
        if (in(n, 0, 7)) {
            starts[n] = x;
        }
    }

    private void compare(String where) {
        int[] n = starts.clone();
        List<Integer> put = new ArrayList<>();
        int backs = 0;
        int ending = -1;
        int pc = 0;
        while (ending < 0) {
            if (pc >= program.size()) {
                ending = 0;
                break;
            }
            int[] i = program.get(pc);
            int op = i[0];
            int next = pc + 1;
            if (op == 0) {
                n[i[1]] = i[2];
            } else if (op < 8) {
                n[i[1]] = worked(op, n[i[2]], n[i[3]]);
            } else if (op == 8 || op == 9 && n[i[2]] != 0) {
                next = i[4];
                if (next <= pc && backs == 40) {
                    ending = 2;
                } else if (next <= pc) {
                    backs++;
                }
            } else if (op == 10 && put.size() == 24) {
                ending = 1;
            } else if (op == 10) {
                put.add(n[i[2]]);
            } else if (op == 11) {
                ending = 0;
            }
            pc = next;
        }
        endings[ending]++;
        told(where, ending, backs, put);
    }

    private static int worked(int op, long a, long b) {
        long[] results = {a, a + b, a - b, a * b, a & b, a ^ b, a < b ? 1 : 0};
        return (int) results[op - 1];
    }

    private void told(String where, int ending, int backs, List<Integer> put) {
        StringBuilder want = new StringBuilder();
        int digest = 0;
        for (int k = 0; k < put.size(); k++) {
            digest += (k + 1) * put.get(k);
            want.append(' ').append(put.get(k));
        }
        String start = "size " + program.size() + " ending " + ending + " backs " + backs;
        String rest = " kinds " + new HashSet<>(put).size() + " digest " + digest + " outs";
        Check.dueText(where, Check.told(real), start + rest + want);
    }
}
