/** Promise 6: setAssigned. */
final class Promise06SetAssignedTest {
    private static final Check CHECK = new Check();

    public static void main(String[] args) {
        everyUserAndRole();
        nothingElseChanges();
        CHECK.end();
    }

    private static void everyUserAndRole() {
        AdminRoleAnalyser x = new AdminRoleAnalyser(8, 8, 1);
        for (int user = 0; user < 8; user++) {
            for (int role = 0; role < 8; role++) {
                CHECK.due("off before on", -3, x.setAssigned(user, role, false));
                CHECK.due("on", 0, x.setAssigned(user, role, true));
                CHECK.due("on again", -3, x.setAssigned(user, role, true));
                CHECK.due("all so far", (2 << role) - 1, x.explicitRoles(user));
                CHECK.due("effective so far", (2 << role) - 1, x.effectiveRoles(user));
            }
        }
        CHECK.due("off", 0, x.setAssigned(4, 3, false));
        CHECK.due("off again", -3, x.setAssigned(4, 3, false));
        for (int user = 0; user < 8; user++) {
            CHECK.due("what is left " + user, user == 4 ? 255 - 8 : 255, x.explicitRoles(user));
        }
    }

    private static void nothingElseChanges() {
        AdminRoleAnalyser x = new AdminRoleAnalyser(3, 4, 2);
        x.setAssigned(0, 0, true);
        x.addRule(1, 0, 1, 0);
        x.analyse(1, 1);
        String witness = Check.witness(x);
        String before = Check.state(x);
        CHECK.due("admin loses his role", 0, x.setAssigned(0, 0, false));
        CHECK.same("witness", witness, Check.witness(x));
        CHECK.due("nothing is in reach now", 0, x.reachableRoles(1));
        CHECK.due("admin gets it back", 0, x.setAssigned(0, 0, true));
        CHECK.same("state", before, Check.state(x));
        CHECK.due("next rule", 1, x.addRule(1, 0, 1, 0));
    }
}
