/** Promise 2: addInheritance. */
final class Promise02AddInheritanceTest {
    private static final Check CHECK = new Check();

    public static void main(String[] args) {
        wrongArguments();
        orderOfRefusals();
        redundantEdge();
        effectsOfAnEdge();
        longChain();
        diamond();
        CHECK.end();
    }

    private static void wrongArguments() {
        int[] outside = {Integer.MIN_VALUE, -2, -1, 3, 4, 8, 32, 33, Integer.MAX_VALUE};
        AdminRoleAnalyser x = new AdminRoleAnalyser(1, 3, 1);
        String before = Check.state(x);
        for (int role : outside) {
            CHECK.due("addInheritance(" + role + ", 0)", -1, x.addInheritance(role, 0));
            CHECK.due("addInheritance(0, " + role + ")", -1, x.addInheritance(0, role));
            CHECK.due("addInheritance twice " + role, -1, x.addInheritance(role, role));
        }
        for (int role = 0; role < 3; role++) {
            CHECK.due("addInheritance to itself " + role, -4, x.addInheritance(role, role));
        }
        CHECK.same("state after refusals", before, Check.state(x));
    }

    private static void orderOfRefusals() {
        AdminRoleAnalyser x = new AdminRoleAnalyser(1, 4, 1);
        CHECK.due("add 3 over 1", 0, x.addInheritance(3, 1));
        CHECK.due("add 1 over 0", 0, x.addInheritance(1, 0));
        String before = Check.state(x);
        CHECK.due("again 3 over 1", -3, x.addInheritance(3, 1));
        CHECK.due("back 1 over 3", -4, x.addInheritance(1, 3));
        CHECK.due("far back 0 over 3", -4, x.addInheritance(0, 3));
        CHECK.same("state after refusals", before, Check.state(x));
        CHECK.due("0 over 2 closes no cycle", 0, x.addInheritance(0, 2));
        CHECK.due("2 over 3 would now", -4, x.addInheritance(2, 3));
    }

    private static void redundantEdge() {
        AdminRoleAnalyser x = new AdminRoleAnalyser(1, 3, 1);
        x.addInheritance(2, 1);
        x.addInheritance(1, 0);
        CHECK.due("2 over 0, known through 1", 0, x.addInheritance(2, 0));
        CHECK.due("2 over 0 again", -3, x.addInheritance(2, 0));
        CHECK.due("juniorsOf(2)", 7, x.juniorsOf(2));
        CHECK.due("take 1 over 0 away", 0, x.removeInheritance(1, 0));
        CHECK.due("juniorsOf(2) keeps 0", 7, x.juniorsOf(2));
        CHECK.due("juniorsOf(1)", 2, x.juniorsOf(1));
    }

    private static void effectsOfAnEdge() {
        AdminRoleAnalyser x = new AdminRoleAnalyser(3, 5, 2);
        x.setAssigned(0, 2, true);
        x.setAssigned(1, 3, true);
        x.setAssigned(2, 4, true);
        x.grantPermission(1, 9, true);
        x.addRule(1, 3, 0, 0);
        x.addInheritance(4, 3);
        CHECK.due("analyse(0, 0)", 1, x.analyse(0, 0));
        String witness = Check.witness(x);
        CHECK.due("2 over 1", 0, x.addInheritance(2, 1));
        CHECK.due("3 over 2", 0, x.addInheritance(3, 2));
        CHECK.due("juniorsOf(4)", 2 + 4 + 8 + 16, x.juniorsOf(4));
        CHECK.due("effective 0", 2 + 4, x.effectiveRoles(0));
        CHECK.due("effective 1", 2 + 4 + 8, x.effectiveRoles(1));
        CHECK.due("effective 2", 2 + 4 + 8 + 16, x.effectiveRoles(2));
        CHECK.due("explicit 0", 4, x.explicitRoles(0));
        CHECK.due("explicit 1", 8, x.explicitRoles(1));
        CHECK.due("explicit 2", 16, x.explicitRoles(2));
        for (int user = 0; user < 3; user++) {
            CHECK.due("permissions of " + user, 1 << 9, Check.permissions(x, user));
        }
        CHECK.same("witness", witness, Check.witness(x));
        CHECK.due("role 2 itself lacks 9", -3, x.grantPermission(2, 9, false));
        CHECK.due("next rule", 1, x.addRule(1, 0, 0, 0));
    }

    private static void longChain() {
        AdminRoleAnalyser up = new AdminRoleAnalyser(1, 8, 1);
        AdminRoleAnalyser down = new AdminRoleAnalyser(1, 8, 1);
        for (int i = 0; i < 7; i++) {
            CHECK.due("chain up " + i, 0, up.addInheritance(i, i + 1));
            CHECK.due("chain down " + i, 0, down.addInheritance(i + 1, i));
        }
        for (int role = 0; role < 8; role++) {
            CHECK.due("up juniorsOf " + role, 255 & (255 << role), up.juniorsOf(role));
            CHECK.due("down juniorsOf " + role, (2 << role) - 1, down.juniorsOf(role));
        }
        CHECK.due("closing the chain", -4, up.addInheritance(7, 0));
        CHECK.due("closing the chain", -4, down.addInheritance(0, 7));
    }

    private static void diamond() {
        AdminRoleAnalyser x = new AdminRoleAnalyser(1, 4, 1);
        CHECK.due("3 over 2", 0, x.addInheritance(3, 2));
        CHECK.due("3 over 1", 0, x.addInheritance(3, 1));
        CHECK.due("2 over 0", 0, x.addInheritance(2, 0));
        CHECK.due("1 over 0", 0, x.addInheritance(1, 0));
        CHECK.due("juniorsOf(3)", 15, x.juniorsOf(3));
        CHECK.due("0 over 3", -4, x.addInheritance(0, 3));
    }
}
