/** Counts wrong answers for the tests of the project, and tells the state of an object in full. */
final class Check {
    private static int wrong = 0;

    private Check() {
    }

    static void due(String what, long got, long want) {
        if (got != want) {
            wrong++;
            System.out.println(what + " answered " + got + ", due is " + want);
        }
    }

    static void dueText(String what, String got, String want) {
        if (!got.equals(want)) {
            wrong++;
            System.out.println(what + " is\n  " + got + "\ndue is\n  " + want);
        }
    }

    static void outputsDue(String what, FlowOptimiser x, int... want) {
        due(what + ": outs()", x.outs(), want.length);
        for (int k = 0; k < want.length; k++) {
            due(what + ": output(" + k + ")", x.output(k), want[k]);
        }
        due(what + ": output(" + want.length + ")", x.output(want.length), 0);
    }

    /** Everything that the object tells without being changed. */
    static String told(FlowOptimiser x) {
        StringBuilder text = new StringBuilder();
        text.append("size ").append(x.size()).append(" ending ").append(x.ending());
        text.append(" backs ").append(x.backs()).append(" kinds ").append(x.kinds());
        text.append(" digest ").append(x.digest()).append(" outs");
        int outs = x.outs();
        for (int k = 0; k < outs; k++) {
            text.append(' ').append(x.output(k));
        }
        return text.toString();
    }

    static void end() {
        System.out.println(wrong == 0 ? "all answers are as due" : wrong + " answers are not as due");
        if (wrong != 0) {
            System.exit(1);
        }
    }
}
