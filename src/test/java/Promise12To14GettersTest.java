/** Promises 12 to 14: explicitRoles, effectiveRoles and juniorsOf. */
final class Promise12To14GettersTest {
    private static final Check CHECK = new Check();
    private static final int[] FAR = {
        Integer.MIN_VALUE, -8, -2, -1, 8, 9, 16, 31, 32, 33, 256, Integer.MAX_VALUE};

    public static void main(String[] args) {
        outside();
        sizesDecide();
        values();
        noGetterChangesAnything();
        CHECK.end();
    }

    private static void outside() {
        AdminRoleAnalyser x = new AdminRoleAnalyser(8, 8, 16);
        for (int i : FAR) {
            CHECK.due("explicitRoles(" + i + ")", -1, x.explicitRoles(i));
            CHECK.due("effectiveRoles(" + i + ")", -1, x.effectiveRoles(i));
            CHECK.due("juniorsOf(" + i + ")", -1, x.juniorsOf(i));
        }
    }

    private static void sizesDecide() {
        for (int size = 2; size <= 8; size++) {
            AdminRoleAnalyser x = new AdminRoleAnalyser(size, 10 - size, 1);
            CHECK.due("last user, explicit", 0, x.explicitRoles(size - 1));
            CHECK.due("last user, effective", 0, x.effectiveRoles(size - 1));
            CHECK.due("one user more, explicit", -1, x.explicitRoles(size));
            CHECK.due("one user more, effective", -1, x.effectiveRoles(size));
            CHECK.due("last role", 1 << (9 - size), x.juniorsOf(9 - size));
            CHECK.due("one role more", -1, x.juniorsOf(10 - size));
        }
    }

    private static AdminRoleAnalyser built() {
        AdminRoleAnalyser x = new AdminRoleAnalyser(3, 8, 4);
        x.addInheritance(7, 5);
        x.addInheritance(5, 0);
        x.addInheritance(7, 6);
        x.addInheritance(6, 1);
        x.setAssigned(0, 7, true);
        x.setAssigned(1, 5, true);
        x.setAssigned(1, 2, true);
        x.grantPermission(0, 3, true);
        x.addRule(1, 7, 4, 0);
        return x;
    }

    private static void values() {
        AdminRoleAnalyser x = built();
        int[] closures = {1, 2, 4, 8, 16, 33, 66, 128 + 64 + 32 + 2 + 1};
        for (int role = 0; role < 8; role++) {
            CHECK.due("juniorsOf(" + role + ")", closures[role], x.juniorsOf(role));
        }
        CHECK.due("explicitRoles(0)", 128, x.explicitRoles(0));
        CHECK.due("effectiveRoles(0)", 227, x.effectiveRoles(0));
        CHECK.due("explicitRoles(1)", 36, x.explicitRoles(1));
        CHECK.due("effectiveRoles(1)", 37, x.effectiveRoles(1));
        CHECK.due("explicitRoles(2)", 0, x.explicitRoles(2));
        CHECK.due("effectiveRoles(2)", 0, x.effectiveRoles(2));
        CHECK.due("act", 0, x.act(0, 1, 0));
        CHECK.due("explicitRoles(1)", 52, x.explicitRoles(1));
        CHECK.due("effectiveRoles(1)", 53, x.effectiveRoles(1));
    }

    private static void noGetterChangesAnything() {
        AdminRoleAnalyser x = built();
        x.analyse(1, 4);
        String before = Check.state(x);
        for (int i = -1; i <= 8; i++) {
            x.explicitRoles(i);
            x.effectiveRoles(i);
            x.juniorsOf(i);
            x.hasPermission(i, 3);
            x.witnessRule(i);
            x.witnessAdmin(i);
            x.witnessLength();
        }
        CHECK.same("state", before, Check.state(x));
    }
}
