/** Promise 10, sentence by sentence: steps before the first, after the last, and of no plan. */
final class Boundary10WitnessStepsTest {
    private static final Check CHECK = new Check();

    public static void main(String[] args) {
        everyStep();
        everyOtherRule();
        everyOtherAdmin();
        negativeSteps();
        lengthZeroOrNone();
        leastAdmin();
        storedWhenAnalysed();
        changeNothing();
        CHECK.end();
    }

    private static void rule(AdminRoleAnalyser x, int k, int due) {
        CHECK.due("witnessRule(" + k + ")", due, x.witnessRule(k));
    }

    private static void admin(AdminRoleAnalyser x, int k, int due) {
        CHECK.due("witnessAdmin(" + k + ")", due, x.witnessAdmin(k));
    }

    /** User 7 comes to the roles in turn, 1 to the last, by the rules 6 down; user r - 1 assigns role r. */
    private static AdminRoleAnalyser steps(int length) {
        AdminRoleAnalyser x = new AdminRoleAnalyser(8, 8, 16);
        for (int role = 7; role > 0; role--) {
            x.addRule(1, role - 1, role, role == 1 ? 0 : 1 << (role - 1));
        }
        for (int user = 0; user < 7; user++) {
            x.setAssigned(user, user, true);
        }
        CHECK.due("analyse(7, " + length + ")", 1, x.analyse(7, length));
        CHECK.due("witnessLength()", length, x.witnessLength());
        return x;
    }

    private static void everyStep() {
        CHECK.sentence("answers the rule index of stored witness step k (0-based), for 0 <= k < witnessLength()");
        for (int length = 1; length <= 7; length++) {
            AdminRoleAnalyser x = steps(length);
            for (int k = 0; k < length; k++) {
                rule(x, k, 6 - k);
                admin(x, k, k);
            }
        }
    }

    private static void everyOtherRule() {
        CHECK.sentence("For every other k it answers -1");
        for (int length = 1; length <= 7; length++) {
            AdminRoleAnalyser x = steps(7);
            x.analyse(7, length);
            for (int far : Edges.outside(length)) {
                rule(x, far, -1);
            }
        }
        AdminRoleAnalyser x = Sample.longestPlans();
        x.analyse(1, 7);
        for (int far : Edges.outside(128)) {
            rule(x, far, -1);
        }
        x.analyse(1, 6);
        for (int far : Edges.outside(64)) {
            rule(x, far, -1);
        }
    }

    private static void everyOtherAdmin() {
        CHECK.sentence("It answers -1 unless 0 <= k < witnessLength().");
        for (int length = 1; length <= 7; length++) {
            AdminRoleAnalyser x = steps(7);
            x.analyse(7, length);
            for (int far : Edges.outside(length)) {
                admin(x, far, -1);
            }
        }
        AdminRoleAnalyser x = Sample.longestPlans();
        x.analyse(1, 7);
        for (int far : Edges.outside(128)) {
            admin(x, far, -1);
        }
        AdminRoleAnalyser none = new AdminRoleAnalyser(2, 2, 1);
        for (int any : Edges.ints()) {
            admin(none, any, -1);
        }
    }

    private static void negativeSteps() {
        CHECK.sentence("including every negative k");
        AdminRoleAnalyser x = Sample.longestPlans();
        x.analyse(1, 7);
        for (int k = -1; k >= -1000; k--) {
            rule(x, k, -1);
            admin(x, k, -1);
        }
        for (int k : Edges.those(i -> i < 0)) {
            rule(x, k, -1);
            admin(x, k, -1);
        }
    }

    private static void noStep(AdminRoleAnalyser x) {
        for (int any : Edges.ints()) {
            rule(x, any, -1);
            admin(x, any, -1);
        }
    }

    private static void lengthZeroOrNone() {
        CHECK.sentence("and every k whenever the stored length is 0 or -1");
        noStep(new AdminRoleAnalyser(8, 8, 16));
        AdminRoleAnalyser x = Sample.longestPlans();
        noStep(x);
        x.analyse(1, 7);
        CHECK.due("a role that is held", 1, x.analyse(0, 0));
        noStep(x);
        x.analyse(1, 7);
        CHECK.due("a role out of reach", 2, x.analyse(0, 7));
        noStep(x);
    }

    private static void leastAdmin() {
        CHECK.sentence("the least-numbered user other than the analysed user whose effective roles, when analyse"
            + " was called, included the admin role of that step's rule");
        for (int admins = 1; admins < 256; admins++) {
            AdminRoleAnalyser x = new AdminRoleAnalyser(8, 3, 1);
            // Role 2 carries the admin role, so that every other user holds it by inheritance alone.
            x.addInheritance(2, 0);
            x.addRule(1, 0, 1, 0);
            for (int user = 0; user < 8; user++) {
                x.setAssigned(user, user % 2 == 0 ? 2 : 0, (admins >> user & 1) == 1);
            }
            for (int user = 0; user < 8; user++) {
                int others = admins & ~(1 << user);
                CHECK.due("analyse(" + user + ", 1)", others == 0 ? 2 : 1, x.analyse(user, 1));
                admin(x, 0, others == 0 ? -1 : Integer.numberOfTrailingZeros(others));
                rule(x, 0, others == 0 ? -1 : 0);
            }
        }
    }

    private static void storedWhenAnalysed() {
        CHECK.sentence("Both answer the stored values even if the state has changed since the analyse call.");
        AdminRoleAnalyser x = steps(7);
        for (int user = 0; user < 8; user++) {
            Probe.assign(x, user, 0);
        }
        sevenSteps(x);
        for (int user = 0; user < 8; user++) {
            Probe.assign(x, user, 255);
        }
        sevenSteps(x);
        while (x.addRule(2, 0, 0, 0) != Check.FULL) {
            sevenSteps(x);
        }
        for (int role = 1; role < 8; role++) {
            x.addInheritance(role, role - 1);
            sevenSteps(x);
        }
        for (int rule = 0; rule < 16; rule++) {
            x.act(0, 7, rule);
            sevenSteps(x);
        }
        for (int user = 0; user < 8; user++) {
            x.reachableRoles(user);
            x.analyse(user, 8);
            x.analyse(-1, user);
            sevenSteps(x);
        }
    }

    private static void sevenSteps(AdminRoleAnalyser x) {
        for (int k = 0; k < 7; k++) {
            rule(x, k, 6 - k);
            admin(x, k, k);
        }
    }

    private static void changeNothing() {
        CHECK.sentence("Both change nothing.");
        for (int users : Edges.from(1, 8)) {
            AdminRoleAnalyser x = Sample.of(users, 8, 16);
            for (int k : Edges.ints()) {
                x.witnessRule(k);
                x.witnessAdmin(k);
            }
            CHECK.unchanged(() -> Sample.of(users, 8, 16), x);
        }
    }
}
