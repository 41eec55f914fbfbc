/** Promise 3: removeInheritance. */
final class Promise03RemoveInheritanceTest {
    private static final Check CHECK = new Check();

    public static void main(String[] args) {
        oneEdgeGoes();
        diamondKeepsTheJunior();
        cycleBecomesPossible();
        CHECK.end();
    }

    private static void oneEdgeGoes() {
        AdminRoleAnalyser x = new AdminRoleAnalyser(2, 5, 2);
        x.addInheritance(4, 3);
        x.addInheritance(3, 2);
        x.addInheritance(2, 1);
        x.addInheritance(4, 0);
        x.setAssigned(0, 4, true);
        x.grantPermission(1, 3, true);
        x.grantPermission(3, 4, true);
        x.addRule(1, 1, 0, 0);
        CHECK.due("analyse(1, 0)", 1, x.analyse(1, 0));
        String witness = Check.witness(x);
        CHECK.due("3 over 2 goes", 0, x.removeInheritance(3, 2));
        CHECK.due("juniorsOf(4)", 16 + 8 + 1, x.juniorsOf(4));
        CHECK.due("juniorsOf(3)", 8, x.juniorsOf(3));
        CHECK.due("juniorsOf(2)", 4 + 2, x.juniorsOf(2));
        CHECK.due("effective", 16 + 8 + 1, x.effectiveRoles(0));
        CHECK.due("explicit", 16, x.explicitRoles(0));
        CHECK.due("permissions", 1 << 4, Check.permissions(x, 0));
        CHECK.due("role 1 still holds 3", -3, x.grantPermission(1, 3, true));
        CHECK.same("witness", witness, Check.witness(x));
        CHECK.due("no one holds admin role 1 now", 0, x.reachableRoles(1));
        CHECK.due("again", -3, x.removeInheritance(3, 2));
        CHECK.due("next rule", 1, x.addRule(1, 0, 0, 0));
        CHECK.due("back again", 0, x.addInheritance(3, 2));
        CHECK.due("juniorsOf(4) again", 31, x.juniorsOf(4));
    }

    private static void diamondKeepsTheJunior() {
        AdminRoleAnalyser x = new AdminRoleAnalyser(1, 4, 1);
        x.addInheritance(3, 2);
        x.addInheritance(3, 1);
        x.addInheritance(2, 0);
        x.addInheritance(1, 0);
        CHECK.due("2 over 0 goes", 0, x.removeInheritance(2, 0));
        CHECK.due("3 keeps 0 through 1", 15, x.juniorsOf(3));
        CHECK.due("2 has lost 0", 4, x.juniorsOf(2));
        CHECK.due("3 over 1 goes", 0, x.removeInheritance(3, 1));
        CHECK.due("3 has lost both", 12, x.juniorsOf(3));
    }

    private static void cycleBecomesPossible() {
        AdminRoleAnalyser x = new AdminRoleAnalyser(1, 2, 1);
        x.addInheritance(1, 0);
        CHECK.due("0 over 1", -4, x.addInheritance(0, 1));
        CHECK.due("1 over 0 goes", 0, x.removeInheritance(1, 0));
        CHECK.due("0 over 1 now", 0, x.addInheritance(0, 1));
        CHECK.due("juniorsOf(0)", 3, x.juniorsOf(0));
        CHECK.due("juniorsOf(1)", 2, x.juniorsOf(1));
    }
}
