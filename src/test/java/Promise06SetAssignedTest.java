/** Promise 6: setAssigned. */
final class Promise06SetAssignedTest {
    private static final Check CHECK = new Check();

    public static void main(String[] args) {
        refusals();
        everyUserAndRole();
        staysThroughASenior();
        nothingElseChanges();
        CHECK.end();
    }

    private static void refusals() {
        AdminRoleAnalyser x = new AdminRoleAnalyser(3, 4, 1);
        x.setAssigned(1, 1, true);
        String before = Check.state(x);
        int[] noUsers = {Integer.MIN_VALUE, -1, 3, 7, 8, Integer.MAX_VALUE};
        int[] noRoles = {Integer.MIN_VALUE, -1, 4, 7, 8, 32, 33, Integer.MAX_VALUE};
        for (int user : noUsers) {
            CHECK.due("user " + user, -1, x.setAssigned(user, 0, true));
            CHECK.due("user " + user + " off", -1, x.setAssigned(user, 0, false));
        }
        for (int role : noRoles) {
            CHECK.due("role " + role, -1, x.setAssigned(1, role, true));
            CHECK.due("role " + role + " off", -1, x.setAssigned(1, role, false));
        }
        CHECK.due("on again", -3, x.setAssigned(1, 1, true));
        CHECK.due("off before on", -3, x.setAssigned(1, 2, false));
        CHECK.same("state after refusals", before, Check.state(x));
    }

    private static void everyUserAndRole() {
        AdminRoleAnalyser x = new AdminRoleAnalyser(8, 8, 1);
        for (int user = 0; user < 8; user++) {
            for (int role = 0; role < 8; role++) {
                CHECK.due("off before on", -3, x.setAssigned(user, role, false));
                CHECK.due("on", 0, x.setAssigned(user, role, true));
                CHECK.due("on again", -3, x.setAssigned(user, role, true));
                CHECK.due("all so far", (2 << role) - 1, x.explicitRoles(user));
                CHECK.due("effective so far", (2 << role) - 1, x.effectiveRoles(user));
            }
        }
        CHECK.due("off", 0, x.setAssigned(4, 3, false));
        CHECK.due("off again", -3, x.setAssigned(4, 3, false));
        for (int user = 0; user < 8; user++) {
            CHECK.due("what is left " + user, user == 4 ? 255 - 8 : 255, x.explicitRoles(user));
        }
    }

    private static void staysThroughASenior() {
        AdminRoleAnalyser x = new AdminRoleAnalyser(1, 3, 1);
        x.addInheritance(2, 0);
        x.grantPermission(0, 6, true);
        CHECK.due("senior", 0, x.setAssigned(0, 2, true));
        CHECK.due("off, held by inheritance alone", -3, x.setAssigned(0, 0, false));
        CHECK.due("on, held by inheritance alone", 0, x.setAssigned(0, 0, true));
        CHECK.due("explicit", 5, x.explicitRoles(0));
        CHECK.due("off", 0, x.setAssigned(0, 0, false));
        CHECK.due("explicit", 4, x.explicitRoles(0));
        CHECK.due("effective", 5, x.effectiveRoles(0));
        CHECK.due("permission stays", true, x.hasPermission(0, 6));
        CHECK.due("senior off", 0, x.setAssigned(0, 2, false));
        CHECK.due("effective", 0, x.effectiveRoles(0));
        CHECK.due("permission goes", false, x.hasPermission(0, 6));
    }

    private static void nothingElseChanges() {
        AdminRoleAnalyser x = new AdminRoleAnalyser(3, 4, 2);
        x.setAssigned(0, 0, true);
        x.addRule(1, 0, 1, 0);
        x.analyse(1, 1);
        String witness = Check.witness(x);
        String before = Check.state(x);
        CHECK.due("admin loses his role", 0, x.setAssigned(0, 0, false));
        CHECK.same("witness", witness, Check.witness(x));
        CHECK.due("nothing is in reach now", 0, x.reachableRoles(1));
        CHECK.due("admin gets it back", 0, x.setAssigned(0, 0, true));
        CHECK.same("state", before, Check.state(x));
        CHECK.due("next rule", 1, x.addRule(1, 0, 1, 0));
    }
}
