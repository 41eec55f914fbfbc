/** Counts the answers that are not the due ones; a test ends with exit code 1 if there was one. */
final class Check {
    private int wrong = 0;

    void due(String call, long want, long got) {
        if (got != want) {
            tell(call + " answered " + got + ", due is " + want);
        }
    }

    void due(String call, boolean want, boolean got) {
        if (got != want) {
            tell(call + " answered " + got + ", due is " + want);
        }
    }

    void same(String what, String want, String got) {
        if (!got.equals(want)) {
            tell(what + " is " + got + ", due is " + want);
        }
    }

    void end() {
        System.out.println(wrong == 0 ? "all answers are as due" : wrong + " answers are not as due");
        if (wrong != 0) {
            System.exit(1);
        }
    }

    private void tell(String line) {
        wrong++;
        System.out.println(line);
    }

    /** All that the getters tell, the out-of-range ones included. */
    static String state(AdminRoleAnalyser x) {
        StringBuilder all = new StringBuilder(witness(x));
        for (int user = -1; user <= 8; user++) {
            all.append(" u").append(user).append(':').append(x.explicitRoles(user));
            all.append('/').append(x.effectiveRoles(user)).append('/').append(x.reachableRoles(user));
            all.append('/').append(permissions(x, user));
        }
        for (int role = -1; role <= 8; role++) {
            all.append(" r").append(role).append(':').append(x.juniorsOf(role));
        }
        return all.toString();
    }

    static String witness(AdminRoleAnalyser x) {
        StringBuilder all = new StringBuilder("w").append(x.witnessLength());
        for (int k = -1; k <= x.witnessLength() + 1; k++) {
            all.append(' ').append(x.witnessRule(k)).append('@').append(x.witnessAdmin(k));
        }
        return all.toString();
    }

    static int permissions(AdminRoleAnalyser x, int user) {
        int mask = 0;
        for (int perm = 0; perm < 16; perm++) {
            mask |= x.hasPermission(user, perm) ? 1 << perm : 0;
        }
        return mask;
    }

    static int cond(int positive, int negative) {
        return positive | (negative << 8);
    }
}
