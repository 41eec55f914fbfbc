/** Promise 9, sentence by sentence: what is stored at the start, after a plan, after none. */
final class Boundary09WitnessLengthTest {
    private static final Check CHECK = new Check();

    public static void main(String[] args) {
        afterReachable();
        afterUnreachable();
        initially();
        changesNothing();
        CHECK.end();
    }

    private static void length(String when, AdminRoleAnalyser x, int due) {
        CHECK.due("witnessLength() " + when, due, x.witnessLength());
    }

    private static void afterReachable() {
        CHECK.sentence("L after the most recent non-refused analyse answered `REACHABLE`");
        AdminRoleAnalyser x = Sample.longestPlans();
        int[] roles = {7, 0, 6, 3, 7, 1};
        for (int role : roles) {
            CHECK.due("analyse(1, " + role + ")", 1, x.analyse(1, role));
            length("for role " + role, x, 1 << role);
            for (int far : Edges.outside(8)) {
                x.analyse(1, far);
                x.analyse(far, role);
                length("after a refused analyse", x, 1 << role);
            }
        }
        CHECK.due("analyse(0, 0)", 1, x.analyse(0, 0));
        length("for a role that is held", x, 0);
        for (int far : Edges.outside(8)) {
            x.analyse(1, far);
            length("after a refused analyse", x, 0);
        }
    }

    private static void afterUnreachable() {
        CHECK.sentence("-1 after it answered `UNREACHABLE`");
        AdminRoleAnalyser x = Sample.longestPlans();
        for (int role = 0; role < 8; role++) {
            x.analyse(1, role);
            CHECK.due("analyse(0, 1)", 2, x.analyse(0, 1));
            length("after no plan", x, -1);
            x.analyse(-1, role);
            x.analyse(1, 8);
            length("after a refused analyse", x, -1);
        }
    }

    private static void initially() {
        CHECK.sentence("-1 initially, when no analyse has been answered other than with `ERR_RANGE`");
        for (int users = 1; users <= 8; users++) {
            AdminRoleAnalyser x = new AdminRoleAnalyser(users, 10 - users, 16);
            length("at the start", x, -1);
            for (int far : Edges.outside(8)) {
                CHECK.due("analyse(" + far + ", 0)", Check.RANGE, x.analyse(far, 0));
                CHECK.due("analyse(0, " + far + ")", Check.RANGE, x.analyse(0, far));
                length("after refused ones alone", x, -1);
            }
            x.setAssigned(0, 0, true);
            x.addRule(1, 0, 1, 0);
            x.reachableRoles(0);
            x.act(0, users - 1, 0);
            length("after calls of other kinds", x, -1);
            CHECK.due("analyse(0, 0)", 1, x.analyse(0, 0));
            length("after the first analyse", x, 0);
        }
    }

    private static void changesNothing() {
        CHECK.sentence("Promise 9: It changes nothing.");
        for (int users : Edges.from(1, 8)) {
            AdminRoleAnalyser x = Sample.of(users, 8, 16);
            for (int i = 0; i < 100; i++) {
                x.witnessLength();
            }
            CHECK.unchanged(() -> Sample.of(users, 8, 16), x);
        }
    }
}
