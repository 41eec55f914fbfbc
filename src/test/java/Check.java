import java.util.Map;
import java.util.function.Supplier;

/** Counts the answers that are not the due ones; a test ends with exit code 1 if there was one. */
final class Check {
    static final int OK = 0;
    static final int RANGE = -1;
    static final int FULL = -2;
    static final int SAME = -3;
    static final int CYCLE = -4;
    static final int SELF = -5;
    static final int DENIED = -6;
    static final int PRECOND = -7;

    private static final int MOST_TOLD = 20;

    private int wrong = 0;
    private String sentence = "";
    private int looked = 0;
    private int told = 0;

    /** What follows tests this sentence of the document; a wrong answer is told with it. */
    void sentence(String words) {
        endSentence();
        sentence = words;
        looked = 0;
        told = 0;
    }

    void due(String call, long want, long got) {
        looked++;
        if (got != want) {
            tell(call + " answered " + got + ", due is " + want);
        }
    }

    void due(String call, boolean want, boolean got) {
        looked++;
        if (got != want) {
            tell(call + " answered " + got + ", due is " + want);
        }
    }

    void same(String what, String want, String got) {
        looked++;
        if (!got.equals(want)) {
            int from = Math.max(0, firstDifference(want, got) - 30);
            tell(what + " is " + cut(got, from) + ", due is " + cut(want, from));
        }
    }

    /**
     * The object tells and holds what a control does that got none of the calls in question. The
     * object is used up. Its getters are called before its parts are read, the control's are not.
     */
    void unchanged(Supplier<AdminRoleAnalyser> control, AdminRoleAnalyser x) {
        same("what the getters tell", state(control.get()), state(x));
        sameBut("none", Probe.withoutWitness(control.get()), Probe.withoutWitness(x));
    }

    /** All parts of two probes are the same but, it may be, the named one. */
    void sameBut(String changed, Map<String, String> want, Map<String, String> got) {
        for (String part : want.keySet()) {
            if (!part.equals(changed)) {
                same(part, want.get(part), got.get(part));
            }
        }
    }

    void end() {
        endSentence();
        System.out.println(wrong == 0 ? "all answers are as due" : wrong + " answers are not as due");
        if (wrong != 0) {
            System.exit(1);
        }
    }

    /** A sentence without a single answer looked at is not tested. */
    private void endSentence() {
        if (sentence.isEmpty()) {
            return;
        }
        if (looked == 0) {
            tell("no answer was looked at");
        }
        if (told > MOST_TOLD) {
            System.out.println("  and " + (told - MOST_TOLD) + " more of this sentence");
        }
    }

    private void tell(String line) {
        wrong++;
        told++;
        if (told == 1 && !sentence.isEmpty()) {
            System.out.println("broken: " + sentence);
        }
        if (told <= MOST_TOLD || sentence.isEmpty()) {
            System.out.println((sentence.isEmpty() ? "" : "  ") + line);
        }
    }

    private static int firstDifference(String one, String other) {
        int at = 0;
        while (at < one.length() && at < other.length() && one.charAt(at) == other.charAt(at)) {
            at++;
        }
        return at;
    }

    private static String cut(String text, int from) {
        int until = Math.min(text.length(), from + 200);
        return (from > 0 ? ".." : "") + text.substring(from, until) + (until < text.length() ? ".." : "");
    }

    /** All that the getters tell, the out-of-range ones included. */
    static String state(AdminRoleAnalyser x) {
        StringBuilder all = new StringBuilder(witness(x));
        for (int user = -1; user <= 8; user++) {
            all.append(" u").append(user).append(':').append(x.explicitRoles(user));
            all.append('/').append(x.effectiveRoles(user)).append('/').append(x.reachableRoles(user));
            all.append('/').append(permissions(x, user));
        }
        for (int role = -1; role <= 8; role++) {
            all.append(" r").append(role).append(':').append(x.juniorsOf(role));
        }
        return all.toString();
    }

    static String witness(AdminRoleAnalyser x) {
        StringBuilder all = new StringBuilder("w").append(x.witnessLength());
        for (int k = -1; k <= x.witnessLength() + 1; k++) {
            all.append(' ').append(x.witnessRule(k)).append('@').append(x.witnessAdmin(k));
        }
        return all.toString();
    }

    static int permissions(AdminRoleAnalyser x, int user) {
        int mask = 0;
        for (int perm = 0; perm < 16; perm++) {
            mask |= x.hasPermission(user, perm) ? 1 << perm : 0;
        }
        return mask;
    }

    static int cond(int positive, int negative) {
        return positive | (negative << 8);
    }
}
