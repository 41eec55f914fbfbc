/** Promise 4: grantPermission. */
final class Promise04GrantPermissionTest {
    private static final Check CHECK = new Check();

    public static void main(String[] args) {
        everyRoleAndPermission();
        nothingElseChanges();
        CHECK.end();
    }

    private static void everyRoleAndPermission() {
        AdminRoleAnalyser x = new AdminRoleAnalyser(8, 8, 1);
        for (int role = 0; role < 8; role++) {
            x.setAssigned(role, role, true);
        }
        for (int role = 0; role < 8; role++) {
            for (int perm = 0; perm < 16; perm++) {
                String at = " " + role + " " + perm;
                CHECK.due("off before on" + at, -3, x.grantPermission(role, perm, false));
                CHECK.due("on" + at, 0, x.grantPermission(role, perm, true));
                CHECK.due("on again" + at, -3, x.grantPermission(role, perm, true));
                CHECK.due("all so far" + at, (2 << perm) - 1, Check.permissions(x, role));
            }
        }
        CHECK.due("off", 0, x.grantPermission(5, 15, false));
        CHECK.due("off again", -3, x.grantPermission(5, 15, false));
        CHECK.due("off", 0, x.grantPermission(5, 0, false));
        for (int role = 0; role < 8; role++) {
            CHECK.due("what is left " + role, role == 5 ? 0x7ffe : 0xffff, Check.permissions(x, role));
        }
    }

    private static void nothingElseChanges() {
        AdminRoleAnalyser x = new AdminRoleAnalyser(2, 4, 2);
        x.setAssigned(0, 0, true);
        x.addRule(1, 0, 1, 0);
        x.addInheritance(1, 2);
        x.analyse(1, 2);
        String before = Check.state(x);
        CHECK.due("role 3, which no one holds", 0, x.grantPermission(3, 5, true));
        CHECK.same("state", before, Check.state(x));
        CHECK.due("a permission of a junior", 0, x.grantPermission(2, 5, true));
        CHECK.due("the senior itself lacks it", -3, x.grantPermission(1, 5, false));
        CHECK.same("state", before, Check.state(x));
        CHECK.due("next rule", 1, x.addRule(1, 0, 1, 0));
    }
}
