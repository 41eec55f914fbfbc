/** Promise 11: reachableRoles. */
final class Promise11ReachableRolesTest {
    private static final Check CHECK = new Check();

    public static void main(String[] args) {
        withoutRules();
        unionOverAllPlans();
        followsTheState();
        CHECK.end();
    }

    private static void withoutRules() {
        AdminRoleAnalyser x = new AdminRoleAnalyser(8, 8, 1);
        x.addInheritance(7, 3);
        x.setAssigned(7, 7, true);
        CHECK.due("user 7", 128 + 8, x.reachableRoles(7));
        CHECK.due("user 0", 0, x.reachableRoles(0));
    }

    /** Roles 1 and 2 shut each other out: both are in reach, though never together. */
    private static void unionOverAllPlans() {
        AdminRoleAnalyser x = new AdminRoleAnalyser(2, 6, 16);
        x.setAssigned(0, 0, true);
        x.setAssigned(1, 5, true);
        x.addRule(1, 0, 1, Check.cond(0, 4));
        x.addRule(1, 0, 2, Check.cond(0, 2));
        x.addRule(1, 0, 3, Check.cond(6, 0));
        x.addRule(2, 0, 5, 0);
        x.addInheritance(2, 4);
        CHECK.due("user 1", 2 + 4 + 16 + 32, x.reachableRoles(1));
        CHECK.due("user 0, who has no admin", 1, x.reachableRoles(0));
        agrees(x, 2, 6);
    }

    private static void followsTheState() {
        AdminRoleAnalyser x = new AdminRoleAnalyser(2, 4, 2);
        x.addRule(1, 0, 1, 0);
        CHECK.due("no admin", 0, x.reachableRoles(1));
        x.setAssigned(0, 3, true);
        CHECK.due("no admin", 0, x.reachableRoles(1));
        x.addInheritance(3, 0);
        CHECK.due("an admin", 2, x.reachableRoles(1));
        x.addRule(1, 3, 2, 2);
        CHECK.due("two rules", 6, x.reachableRoles(1));
        x.removeInheritance(3, 0);
        CHECK.due("rule 0 has no admin", 0, x.reachableRoles(1));
    }

    private static void agrees(AdminRoleAnalyser x, int users, int roles) {
        for (int user = 0; user < users; user++) {
            int reach = x.reachableRoles(user);
            for (int role = 0; role < roles; role++) {
                CHECK.due("analyse " + user + " " + role, (reach >> role & 1) == 1 ? 1 : 2, x.analyse(user, role));
            }
        }
    }
}
