/** Promise 15: hasPermission. */
final class Promise15HasPermissionTest {
    private static final Check CHECK = new Check();

    public static void main(String[] args) {
        everyRoleAndPermission();
        throughInheritance();
        anyRoleWillDo();
        CHECK.end();
    }

    private static void everyRoleAndPermission() {
        for (int role = 0; role < 8; role++) {
            for (int perm = 0; perm < 16; perm++) {
                AdminRoleAnalyser x = new AdminRoleAnalyser(8, 8, 1);
                x.grantPermission(role, perm, true);
                CHECK.due("no role", 0, Check.permissions(x, 7 - role));
                x.setAssigned(7 - role, (role + 1) % 8, true);
                CHECK.due("another role", 0, Check.permissions(x, 7 - role));
                x.setAssigned(7 - role, role, true);
                for (int user = 0; user < 8; user++) {
                    CHECK.due("user " + user, user == 7 - role ? 1 << perm : 0, Check.permissions(x, user));
                }
            }
        }
    }

    private static void throughInheritance() {
        AdminRoleAnalyser x = new AdminRoleAnalyser(2, 4, 1);
        x.setAssigned(0, 3, true);
        x.setAssigned(1, 1, true);
        x.grantPermission(1, 2, true);
        x.grantPermission(3, 5, true);
        x.addInheritance(3, 2);
        CHECK.due("not yet", 1 << 5, Check.permissions(x, 0));
        x.addInheritance(2, 1);
        CHECK.due("through two edges", 1 << 5 | 1 << 2, Check.permissions(x, 0));
        CHECK.due("a junior has not its senior's", 1 << 2, Check.permissions(x, 1));
        x.removeInheritance(3, 2);
        CHECK.due("no longer", 1 << 5, Check.permissions(x, 0));
    }

    private static void anyRoleWillDo() {
        AdminRoleAnalyser x = new AdminRoleAnalyser(1, 3, 1);
        x.grantPermission(0, 1, true);
        x.grantPermission(2, 1, true);
        x.setAssigned(0, 0, true);
        x.setAssigned(0, 2, true);
        CHECK.due("by both", true, x.hasPermission(0, 1));
        x.grantPermission(0, 1, false);
        CHECK.due("by role 2", true, x.hasPermission(0, 1));
        x.setAssigned(0, 2, false);
        CHECK.due("by none", false, x.hasPermission(0, 1));
    }
}
