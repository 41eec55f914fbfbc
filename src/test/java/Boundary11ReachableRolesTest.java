/** Promise 11, sentence by sentence: no such user, the least and the greatest mask, no change. */
final class Boundary11ReachableRolesTest {
    private static final Check CHECK = new Check();

    public static void main(String[] args) {
        outside();
        exactlyThoseOfAnalyse();
        validMask();
        containsEffective();
        changesNothing();
        keepsTheWitness();
        CHECK.end();
    }

    private static void outside() {
        CHECK.sentence("`reachableRoles(user)` answers -1 if user is outside 0..U-1.");
        for (int users = 1; users <= 8; users++) {
            AdminRoleAnalyser x = Sample.of(users, 8, 16);
            for (int far : Edges.outside(users)) {
                CHECK.due("reachableRoles(" + far + ")", -1, x.reachableRoles(far));
            }
            for (int user = 0; user < users; user++) {
                CHECK.due("reachableRoles(" + user + ") is a mask", true, x.reachableRoles(user) >= 0);
            }
        }
    }

    private static void exactlyThoseOfAnalyse() {
        CHECK.sentence("exactly the roles for which `analyse(user, g)` would answer `REACHABLE` now");
        for (int users = 1; users <= 8; users++) {
            for (int roles = 2; roles <= 8; roles++) {
                AdminRoleAnalyser x = Sample.of(users, roles, 16);
                for (int user = 0; user < users; user++) {
                    CHECK.due("reachableRoles(" + user + ")", analysed(x, user, roles), x.reachableRoles(user));
                }
            }
        }
    }

    private static int analysed(AdminRoleAnalyser x, int user, int roles) {
        int mask = 0;
        for (int role = 0; role < roles; role++) {
            mask |= x.analyse(user, role) == 1 ? 1 << role : 0;
        }
        return mask;
    }

    /** The last user may be given every role, one at a time, and each is taken away again. */
    private static AdminRoleAnalyser allInReach(int users, int roles) {
        AdminRoleAnalyser x = new AdminRoleAnalyser(users, roles, 16);
        x.setAssigned(0, 0, true);
        for (int role = 0; role < roles; role++) {
            x.addRule(1, 0, role, Check.cond(0, (1 << roles) - 1));
            x.addRule(2, 0, role, 0);
        }
        return x;
    }

    private static void validMask() {
        CHECK.sentence("The mask is a valid role mask");
        for (int roles = 2; roles <= 8; roles++) {
            for (int users = 2; users <= 8; users++) {
                AdminRoleAnalyser x = allInReach(users, roles);
                CHECK.due("all " + roles + " roles", (1 << roles) - 1, x.reachableRoles(users - 1));
                CHECK.due("the only admin", 1, x.reachableRoles(0));
            }
            AdminRoleAnalyser none = new AdminRoleAnalyser(1, roles, 1);
            CHECK.due("none of " + roles + " roles", 0, none.reachableRoles(0));
        }
    }

    private static void containsEffective() {
        CHECK.sentence("and always contains effective(user)");
        for (int mask = 0; mask < 256; mask++) {
            AdminRoleAnalyser x = new AdminRoleAnalyser(2, 8, 16);
            x.addInheritance(7, 6);
            x.addInheritance(6, 0);
            Probe.assign(x, 1, mask);
            CHECK.due("without rules, of " + mask, x.effectiveRoles(1), x.reachableRoles(1));
            x.setAssigned(0, 3, true);
            for (int role = 0; role < 8; role++) {
                x.addRule(2, 3, role, 0);
            }
            CHECK.due("with every role revocable, of " + mask, x.effectiveRoles(1), x.reachableRoles(1));
        }
    }

    private static void changesNothing() {
        CHECK.sentence("Promise 11: It changes nothing");
        for (int users : Edges.from(1, 8)) {
            AdminRoleAnalyser x = Sample.of(users, 8, 16);
            for (int any : Edges.ints()) {
                x.reachableRoles(any);
            }
            CHECK.unchanged(() -> Sample.of(users, 8, 16), x);
        }
    }

    private static void keepsTheWitness() {
        CHECK.sentence("Promise 11: It changes nothing, the stored witness included.");
        int[] asked = {7, 0, 3};
        AdminRoleAnalyser x = Sample.longestPlans();
        CHECK.due("reachableRoles(1)", 255, x.reachableRoles(1));
        CHECK.due("witnessLength()", -1, x.witnessLength());
        for (int role : asked) {
            x.analyse(1, role);
            String before = Check.witness(x);
            for (int any : Edges.ints()) {
                x.reachableRoles(any);
                CHECK.same("witness", before, Check.witness(x));
            }
        }
        x.analyse(0, 7);
        x.reachableRoles(1);
        CHECK.due("witnessLength() after no plan", -1, x.witnessLength());
        x.analyse(0, 0);
        x.reachableRoles(1);
        CHECK.due("witnessLength() of a held role", 0, x.witnessLength());
    }
}
