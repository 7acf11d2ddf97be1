/** Counts wrong answers for the tests of the project, and tells the state of an object in full. */
final class Check {
    private static int wrong = 0;
    private static String sentence = "";

    private Check() {
    }

    /** The sentence of the document that the answers from here on are due by. */
    static void by(String words) {
        sentence = words;
    }

    private static void tell(String words) {
        wrong++;
        System.out.println((sentence.isEmpty() ? "" : "[" + sentence + "] ") + words);
    }

    static void due(String what, long got, long want) {
        if (got != want) {
            tell(what + " answered " + got + ", due is " + want);
        }
    }

    static void dueText(String what, String got, String want) {
        if (!got.equals(want)) {
            tell(what + " is\n  " + got + "\ndue is\n  " + want);
        }
    }

    static void outputsDue(String what, FlowOptimiser x, int... want) {
        due(what + ": outs()", x.outs(), want.length);
        for (int k = 0; k < want.length; k++) {
            due(what + ": output(" + k + ")", x.output(k), want[k]);
        }
        due(what + ": output(" + want.length + ")", x.output(want.length), 0);
    }

    /** Everything that the object tells without being changed. */
    static String told(FlowOptimiser x) {
        StringBuilder text = new StringBuilder();
        text.append("size ").append(x.size()).append(" ending ").append(x.ending());
        text.append(" backs ").append(x.backs()).append(" kinds ").append(x.kinds());
        text.append(" digest ").append(x.digest()).append(" outs");
        int outs = x.outs();
        for (int k = 0; k < outs; k++) {
            text.append(' ').append(x.output(k));
        }
        return text.toString();
    }

    /** How the run ends, how often it goes back and how many numbers it puts out. */
    static void runDue(String what, FlowOptimiser x, int ending, int backs, int outs) {
        due(what + ": ending()", x.ending(), ending);
        due(what + ": backs()", x.backs(), backs);
        due(what + ": outs()", x.outs(), outs);
    }

    static void end() {
        System.out.println(wrong == 0 ? "all answers are as due" : wrong + " answers are not as due");
        if (wrong != 0) {
            System.exit(1);
        }
    }
}
