/** Promise 4: grantPermission. */
final class Promise04GrantPermissionTest {
    private static final Check CHECK = new Check();

    public static void main(String[] args) {
        refusals();
        everyRoleAndPermission();
        nothingElseChanges();
        CHECK.end();
    }

    private static void refusals() {
        AdminRoleAnalyser x = new AdminRoleAnalyser(1, 3, 1);
        x.setAssigned(0, 0, true);
        String before = Check.state(x);
        int[] noRoles = {Integer.MIN_VALUE, -1, 3, 7, 8, 32, Integer.MAX_VALUE};
        int[] noPerms = {Integer.MIN_VALUE, -1, 16, 17, 31, 32, Integer.MAX_VALUE};
        for (int role : noRoles) {
            CHECK.due("role " + role, -1, x.grantPermission(role, 0, true));
            CHECK.due("role " + role + " off", -1, x.grantPermission(role, 0, false));
        }
        for (int perm : noPerms) {
            CHECK.due("perm " + perm, -1, x.grantPermission(0, perm, true));
            CHECK.due("perm " + perm + " off", -1, x.grantPermission(0, perm, false));
        }
        CHECK.due("both outside", -1, x.grantPermission(-1, 16, true));
        CHECK.same("state after refusals", before, Check.state(x));
    }

    private static void everyRoleAndPermission() {
        AdminRoleAnalyser x = new AdminRoleAnalyser(8, 8, 1);
        for (int role = 0; role < 8; role++) {
            x.setAssigned(role, role, true);
        }
        for (int role = 0; role < 8; role++) {
            for (int perm = 0; perm < 16; perm++) {
                String at = " " + role + " " + perm;
                CHECK.due("off before on" + at, -3, x.grantPermission(role, perm, false));
                CHECK.due("on" + at, 0, x.grantPermission(role, perm, true));
                CHECK.due("on again" + at, -3, x.grantPermission(role, perm, true));
                CHECK.due("all so far" + at, (2 << perm) - 1, Check.permissions(x, role));
            }
        }
        CHECK.due("off", 0, x.grantPermission(5, 15, false));
        CHECK.due("off again", -3, x.grantPermission(5, 15, false));
        CHECK.due("off", 0, x.grantPermission(5, 0, false));
        for (int role = 0; role < 8; role++) {
            CHECK.due("what is left " + role, role == 5 ? 0x7ffe : 0xffff, Check.permissions(x, role));
        }
    }

    private static void nothingElseChanges() {
        AdminRoleAnalyser x = new AdminRoleAnalyser(2, 4, 2);
        x.setAssigned(0, 0, true);
        x.addRule(1, 0, 1, 0);
        x.addInheritance(1, 2);
        x.analyse(1, 2);
        String before = Check.state(x);
        CHECK.due("role 3, which no one holds", 0, x.grantPermission(3, 5, true));
        CHECK.same("state", before, Check.state(x));
        CHECK.due("a permission of a junior", 0, x.grantPermission(2, 5, true));
        CHECK.due("the senior itself lacks it", -3, x.grantPermission(1, 5, false));
        CHECK.same("state", before, Check.state(x));
        CHECK.due("next rule", 1, x.addRule(1, 0, 1, 0));
    }
}
