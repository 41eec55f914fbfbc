import java.util.Map;

/** Promise 6, sentence by sentence: every refusal, its order, and that one user alone changes. */
final class Boundary06SetAssignedTest {
    private static final Check CHECK = new Check();

    public static void main(String[] args) {
        outside();
        already();
        order();
        addedOrRemoved();
        onlyThatUser();
        theRestStays();
        staysThroughASenior();
        CHECK.end();
    }

    private static void set(AdminRoleAnalyser x, int user, int role, boolean on, int due) {
        CHECK.due("setAssigned(" + user + ", " + role + ", " + on + ")", due, x.setAssigned(user, role, on));
    }

    private static void both(AdminRoleAnalyser x, int user, int role) {
        set(x, user, role, true, Check.RANGE);
        set(x, user, role, false, Check.RANGE);
    }

    private static void outside() {
        CHECK.sentence("user outside 0..U-1 or role outside 0..R-1 -> `ERR_RANGE`");
        for (int users : Edges.from(1, 8)) {
            int roles = Math.max(2, 9 - users);
            AdminRoleAnalyser x = Sample.of(users, roles, 4);
            for (int far : Edges.outside(users)) {
                for (int role = 0; role < roles; role++) {
                    both(x, far, role);
                }
                for (int other : Edges.nearest(roles)) {
                    both(x, far, other);
                }
            }
            for (int far : Edges.outside(roles)) {
                for (int user = 0; user < users; user++) {
                    both(x, user, far);
                }
            }
            CHECK.unchanged(() -> Sample.of(users, roles, 4), x);
        }
    }

    private static void already() {
        CHECK.sentence("whether role is in explicit(user) already equals on -> `ERR_SAME`");
        for (int user = 0; user < 8; user++) {
            for (int mask = 0; mask < 256; mask++) {
                AdminRoleAnalyser x = new AdminRoleAnalyser(8, 8, 1);
                Probe.assign(x, user, mask);
                for (int role = 0; role < 8; role++) {
                    set(x, user, role, (mask >> role & 1) == 1, Check.SAME);
                }
                CHECK.due("explicitRoles(" + user + ")", mask, x.explicitRoles(user));
            }
        }
        // A role that is held by inheritance alone is not in explicit(user).
        AdminRoleAnalyser x = new AdminRoleAnalyser(1, 2, 1);
        x.addInheritance(1, 0);
        x.setAssigned(0, 1, true);
        set(x, 0, 0, false, Check.SAME);
        set(x, 0, 0, true, Check.OK);
        set(x, 0, 0, true, Check.SAME);
    }

    private static void order() {
        CHECK.sentence("Promise 6: The conditions, in order");
        AdminRoleAnalyser x = new AdminRoleAnalyser(2, 2, 1);
        for (int far : Edges.outside(2)) {
            set(x, far, 0, false, Check.RANGE);
            set(x, 0, far, false, Check.RANGE);
            set(x, far, far, false, Check.RANGE);
        }
    }

    private static void addedOrRemoved() {
        CHECK.sentence("Otherwise role is added to explicit(user) (on) or removed from it (not on), and the"
            + " answer is `OK`.");
        for (int user = 0; user < 8; user++) {
            for (int mask = 0; mask < 256; mask++) {
                for (int role = 0; role < 8; role++) {
                    AdminRoleAnalyser x = new AdminRoleAnalyser(8, 8, 1);
                    Probe.assign(x, user, mask);
                    set(x, user, role, (mask >> role & 1) == 0, Check.OK);
                    CHECK.due("explicitRoles(" + user + ")", mask ^ 1 << role, x.explicitRoles(user));
                }
            }
        }
    }

    private static void onlyThatUser() {
        CHECK.sentence("Only explicit(user) changes, and with it effective(user) and the permissions of that"
            + " user.");
        AdminRoleAnalyser before = Sample.of(8, 8, 16);
        for (int user = 0; user < 8; user++) {
            for (int role = 0; role < 8; role++) {
                AdminRoleAnalyser x = Sample.of(8, 8, 16);
                boolean held = (x.explicitRoles(user) >> role & 1) == 1;
                set(x, user, role, !held, Check.OK);
                for (int other = 0; other < 8; other++) {
                    int due = before.explicitRoles(other) ^ (other == user ? 1 << role : 0);
                    CHECK.due("explicitRoles(" + other + ")", due, x.explicitRoles(other));
                    if (other != user) {
                        CHECK.due("effectiveRoles(" + other + ")", before.effectiveRoles(other),
                            x.effectiveRoles(other));
                        CHECK.due("permissions of " + other, Check.permissions(before, other),
                            Check.permissions(x, other));
                    }
                }
                follows(x, user);
                AdminRoleAnalyser empty = new AdminRoleAnalyser(8, 8, 1);
                set(empty, user, role, true, Check.OK);
                for (int other = 0; other < 8; other++) {
                    int due = other == user ? 1 << role : 0;
                    CHECK.due("explicitRoles(" + other + ") alone", due, empty.explicitRoles(other));
                }
            }
        }
    }

    private static void follows(AdminRoleAnalyser x, int user) {
        int effective = 0;
        int perms = 0;
        for (int role = 0; role < 8; role++) {
            effective |= (x.explicitRoles(user) >> role & 1) == 1 ? x.juniorsOf(role) : 0;
        }
        for (int perm = 0; perm < 16; perm++) {
            for (int role = 0; role < 8; role++) {
                boolean held = (effective >> role & 1) == 1;
                perms |= held && Sample.grants(role, perm) ? 1 << perm : 0;
            }
        }
        CHECK.due("effectiveRoles(" + user + ")", effective, x.effectiveRoles(user));
        CHECK.due("permissions of " + user, perms, Check.permissions(x, user));
    }

    private static void theRestStays() {
        CHECK.sentence("Other users, the hierarchy, role permissions, rules and the stored witness stay as they"
            + " were.");
        Map<String, String> before = Probe.of(Sample.of(4, 8, 16));
        for (int user = 0; user < 4; user++) {
            for (int role = 0; role < 8; role++) {
                AdminRoleAnalyser x = Sample.of(4, 8, 16);
                boolean held = (x.explicitRoles(user) >> role & 1) == 1;
                set(x, user, role, !held, Check.OK);
                CHECK.sameBut("explicit", before, Probe.of(x));
            }
        }
    }

    private static void staysThroughASenior() {
        CHECK.sentence("Removing an explicit role may leave it in effective(user) through another explicit"
            + " senior role.");
        for (int senior = 0; senior < 8; senior++) {
            for (int junior = 0; junior < 8; junior++) {
                AdminRoleAnalyser x = new AdminRoleAnalyser(1, 8, 1);
                if (x.addInheritance(senior, junior) == Check.OK) {
                    x.grantPermission(junior, 15, true);
                    set(x, 0, senior, true, Check.OK);
                    set(x, 0, junior, true, Check.OK);
                    set(x, 0, junior, false, Check.OK);
                    CHECK.due("explicitRoles(0)", 1 << senior, x.explicitRoles(0));
                    CHECK.due("effectiveRoles(0)", 1 << senior | 1 << junior, x.effectiveRoles(0));
                    CHECK.due("hasPermission(0, 15)", true, x.hasPermission(0, 15));
                    set(x, 0, senior, false, Check.OK);
                    CHECK.due("effectiveRoles(0)", 0, x.effectiveRoles(0));
                    CHECK.due("hasPermission(0, 15)", false, x.hasPermission(0, 15));
                }
            }
        }
    }
}
