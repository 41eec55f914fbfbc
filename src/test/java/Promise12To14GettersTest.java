/** Promises 12 to 14: explicitRoles, effectiveRoles and juniorsOf. */
final class Promise12To14GettersTest {
    private static final Check CHECK = new Check();

    public static void main(String[] args) {
        AdminRoleAnalyser x = new AdminRoleAnalyser(3, 8, 4);
        x.addInheritance(7, 5);
        x.addInheritance(5, 0);
        x.addInheritance(7, 6);
        x.addInheritance(6, 1);
        x.setAssigned(0, 7, true);
        x.setAssigned(1, 5, true);
        x.setAssigned(1, 2, true);
        x.addRule(1, 7, 4, 0);
        int[] closures = {1, 2, 4, 8, 16, 33, 66, 128 + 64 + 32 + 2 + 1};
        for (int role = 0; role < 8; role++) {
            CHECK.due("juniorsOf(" + role + ")", closures[role], x.juniorsOf(role));
        }
        CHECK.due("explicitRoles(0)", 128, x.explicitRoles(0));
        CHECK.due("effectiveRoles(0)", 227, x.effectiveRoles(0));
        CHECK.due("explicitRoles(1)", 36, x.explicitRoles(1));
        CHECK.due("effectiveRoles(1)", 37, x.effectiveRoles(1));
        CHECK.due("explicitRoles(2)", 0, x.explicitRoles(2));
        CHECK.due("effectiveRoles(2)", 0, x.effectiveRoles(2));
        CHECK.due("act", 0, x.act(0, 1, 0));
        CHECK.due("explicitRoles(1)", 52, x.explicitRoles(1));
        CHECK.due("effectiveRoles(1)", 53, x.effectiveRoles(1));
        CHECK.end();
    }
}
