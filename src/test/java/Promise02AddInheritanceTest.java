/** Promise 2: addInheritance. */
final class Promise02AddInheritanceTest {
    private static final Check CHECK = new Check();

    public static void main(String[] args) {
        orderOfRefusals();
        redundantEdge();
        effectsOfAnEdge();
        diamond();
        CHECK.end();
    }

    private static void orderOfRefusals() {
        AdminRoleAnalyser x = new AdminRoleAnalyser(1, 4, 1);
        CHECK.due("add 3 over 1", 0, x.addInheritance(3, 1));
        CHECK.due("add 1 over 0", 0, x.addInheritance(1, 0));
        String before = Check.state(x);
        CHECK.due("again 3 over 1", -3, x.addInheritance(3, 1));
        CHECK.due("back 1 over 3", -4, x.addInheritance(1, 3));
        CHECK.due("far back 0 over 3", -4, x.addInheritance(0, 3));
        CHECK.same("state after refusals", before, Check.state(x));
        CHECK.due("0 over 2 closes no cycle", 0, x.addInheritance(0, 2));
        CHECK.due("2 over 3 would now", -4, x.addInheritance(2, 3));
    }

    private static void redundantEdge() {
        AdminRoleAnalyser x = new AdminRoleAnalyser(1, 3, 1);
        x.addInheritance(2, 1);
        x.addInheritance(1, 0);
        CHECK.due("2 over 0, known through 1", 0, x.addInheritance(2, 0));
        CHECK.due("2 over 0 again", -3, x.addInheritance(2, 0));
        CHECK.due("juniorsOf(2)", 7, x.juniorsOf(2));
        CHECK.due("take 1 over 0 away", 0, x.removeInheritance(1, 0));
        CHECK.due("juniorsOf(2) keeps 0", 7, x.juniorsOf(2));
        CHECK.due("juniorsOf(1)", 2, x.juniorsOf(1));
    }

    private static void effectsOfAnEdge() {
        AdminRoleAnalyser x = new AdminRoleAnalyser(3, 5, 2);
        x.setAssigned(0, 2, true);
        x.setAssigned(1, 3, true);
        x.setAssigned(2, 4, true);
        x.grantPermission(1, 9, true);
        x.addRule(1, 3, 0, 0);
        x.addInheritance(4, 3);
        CHECK.due("analyse(0, 0)", 1, x.analyse(0, 0));
        String witness = Check.witness(x);
        CHECK.due("2 over 1", 0, x.addInheritance(2, 1));
        CHECK.due("3 over 2", 0, x.addInheritance(3, 2));
        CHECK.due("juniorsOf(4)", 2 + 4 + 8 + 16, x.juniorsOf(4));
        CHECK.due("effective 0", 2 + 4, x.effectiveRoles(0));
        CHECK.due("effective 1", 2 + 4 + 8, x.effectiveRoles(1));
        CHECK.due("effective 2", 2 + 4 + 8 + 16, x.effectiveRoles(2));
        CHECK.due("explicit 0", 4, x.explicitRoles(0));
        CHECK.due("explicit 1", 8, x.explicitRoles(1));
        CHECK.due("explicit 2", 16, x.explicitRoles(2));
        for (int user = 0; user < 3; user++) {
            CHECK.due("permissions of " + user, 1 << 9, Check.permissions(x, user));
        }
        CHECK.same("witness", witness, Check.witness(x));
        CHECK.due("role 2 itself lacks 9", -3, x.grantPermission(2, 9, false));
        CHECK.due("next rule", 1, x.addRule(1, 0, 0, 0));
    }

    private static void diamond() {
        AdminRoleAnalyser x = new AdminRoleAnalyser(1, 4, 1);
        CHECK.due("3 over 2", 0, x.addInheritance(3, 2));
        CHECK.due("3 over 1", 0, x.addInheritance(3, 1));
        CHECK.due("2 over 0", 0, x.addInheritance(2, 0));
        CHECK.due("1 over 0", 0, x.addInheritance(1, 0));
        CHECK.due("juniorsOf(3)", 15, x.juniorsOf(3));
        CHECK.due("0 over 3", -4, x.addInheritance(0, 3));
    }
}
