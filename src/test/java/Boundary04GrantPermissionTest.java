import java.util.Map;

/** Promise 4, sentence by sentence: every refusal, its order, and that one permission alone changes. */
final class Boundary04GrantPermissionTest {
    private static final Check CHECK = new Check();

    public static void main(String[] args) {
        outside();
        onAlready();
        offAlready();
        order();
        whenOn();
        nothingElse();
        CHECK.end();
    }

    private static void grant(AdminRoleAnalyser x, int role, int perm, boolean on, int due) {
        CHECK.due("grantPermission(" + role + ", " + perm + ", " + on + ")", due, x.grantPermission(role, perm, on));
    }

    private static void both(AdminRoleAnalyser x, int role, int perm) {
        grant(x, role, perm, true, Check.RANGE);
        grant(x, role, perm, false, Check.RANGE);
    }

    private static void outside() {
        CHECK.sentence("role outside 0..R-1 or perm outside 0..15 -> `ERR_RANGE`");
        for (int roles : Edges.from(2, 8)) {
            AdminRoleAnalyser x = Sample.of(3, roles, 4);
            for (int far : Edges.outside(roles)) {
                for (int perm = 0; perm < 16; perm++) {
                    both(x, far, perm);
                }
                for (int other : Edges.nearest(16)) {
                    both(x, far, other);
                }
            }
            for (int far : Edges.outside(16)) {
                for (int role = 0; role < roles; role++) {
                    both(x, role, far);
                }
            }
            CHECK.unchanged(() -> Sample.of(3, roles, 4), x);
        }
    }

    private static AdminRoleAnalyser all(int roles, boolean on) {
        AdminRoleAnalyser x = new AdminRoleAnalyser(1, roles, 1);
        Probe.assign(x, 0, (1 << roles) - 1);
        for (int role = 0; role < roles; role++) {
            for (int perm = 0; perm < 16; perm++) {
                x.grantPermission(role, perm, on);
            }
        }
        return x;
    }

    private static void already(boolean on) {
        for (int roles : Edges.from(2, 8)) {
            AdminRoleAnalyser x = all(roles, on);
            for (int role = 0; role < roles; role++) {
                for (int perm = 0; perm < 16; perm++) {
                    grant(x, role, perm, on, Check.SAME);
                    grant(x, role, perm, on, Check.SAME);
                }
            }
            CHECK.unchanged(() -> all(roles, on), x);
        }
    }

    private static void onAlready() {
        CHECK.sentence("role is already in the asked condition (already holds perm when on is true");
        already(true);
    }

    private static void offAlready() {
        CHECK.sentence("or already lacks it when on is false) -> `ERR_SAME`");
        already(false);
        // What a user has through a junior role, the senior role itself still lacks.
        AdminRoleAnalyser x = new AdminRoleAnalyser(1, 2, 1);
        x.addInheritance(1, 0);
        x.grantPermission(0, 3, true);
        grant(x, 1, 3, false, Check.SAME);
        grant(x, 1, 3, true, Check.OK);
    }

    private static void order() {
        CHECK.sentence("Promise 4: The conditions, in order");
        AdminRoleAnalyser x = new AdminRoleAnalyser(1, 2, 1);
        for (int far : Edges.outside(16)) {
            grant(x, 0, far, false, Check.RANGE);
            grant(x, far, 0, false, Check.RANGE);
            grant(x, far, far, false, Check.RANGE);
        }
    }

    private static void whenOn() {
        CHECK.sentence("when `on` is true the role holds it afterwards, otherwise it does not");
        for (int role = 0; role < 8; role++) {
            for (int perm = 0; perm < 16; perm++) {
                AdminRoleAnalyser x = new AdminRoleAnalyser(1, 8, 1);
                x.setAssigned(0, role, true);
                for (int round = 0; round < 2; round++) {
                    grant(x, role, perm, true, Check.OK);
                    CHECK.due("permissions", 1 << perm, Check.permissions(x, 0));
                    grant(x, role, perm, false, Check.OK);
                    CHECK.due("permissions", 0, Check.permissions(x, 0));
                }
            }
        }
    }

    private static void nothingElse() {
        CHECK.sentence("Nothing else changes: not the hierarchy, assignments, rules, stored witness, or other"
            + " permissions of this or other roles.");
        Map<String, String> before = Probe.of(Sample.of(4, 8, 16));
        for (int role = 0; role < 8; role++) {
            for (int perm = 0; perm < 16; perm++) {
                AdminRoleAnalyser x = Sample.of(4, 8, 16);
                boolean on = x.grantPermission(role, perm, true) == Check.OK;
                if (!on) {
                    grant(x, role, perm, false, Check.OK);
                }
                String changed = " " + role + ":" + perm;
                Map<String, String> after = Probe.of(x);
                String grants = after.get("grants") + " ";
                CHECK.sameBut("grants", before, after);
                CHECK.due("there is" + changed, on, grants.contains(changed + " "));
                CHECK.same("grants beside" + changed,
                    (before.get("grants") + " ").replace(changed + " ", " "), grants.replace(changed + " ", " "));
                AdminRoleAnalyser empty = new AdminRoleAnalyser(1, 8, 1);
                grant(empty, role, perm, true, Check.OK);
                CHECK.same("all grants", changed, Probe.of(empty).get("grants"));
            }
        }
    }
}
