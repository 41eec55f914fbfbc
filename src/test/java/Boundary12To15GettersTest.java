/** Promises 12 to 15, sentence by sentence: arguments out of range, empty and full masks. */
final class Boundary12To15GettersTest {
    private static final Check CHECK = new Check();

    public static void main(String[] args) {
        explicitOutside();
        explicitIsAMask();
        effectiveOutside();
        effectiveContainsExplicit();
        juniorsOutside();
        juniorsContainTheRole();
        permissionOfNoUser();
        noPermission();
        permissionOfHeldRoles();
        changeNothing();
        CHECK.end();
    }

    private static void explicitOutside() {
        CHECK.sentence("Promise 12: or -1 if user is outside 0..U-1");
        for (int users = 1; users <= 8; users++) {
            AdminRoleAnalyser x = Sample.of(users, 8, 16);
            for (int far : Edges.outside(users)) {
                CHECK.due("explicitRoles(" + far + ") of " + users, -1, x.explicitRoles(far));
            }
        }
    }

    private static void explicitIsAMask() {
        CHECK.sentence("answers explicit(user) as a mask, a valid role mask");
        for (int roles = 2; roles <= 8; roles++) {
            AdminRoleAnalyser x = new AdminRoleAnalyser(8, roles, 16);
            x.addInheritance(1, 0);
            for (int user = 0; user < 8; user++) {
                for (int mask = 0; mask < 256; mask++) {
                    // Roles that there are not leave no bit behind.
                    Probe.assign(x, user, mask);
                    CHECK.due("explicitRoles(" + user + ")", mask & (1 << roles) - 1, x.explicitRoles(user));
                }
            }
        }
    }

    private static void effectiveOutside() {
        CHECK.sentence("Promise 13: or -1 if user is outside 0..U-1");
        for (int users = 1; users <= 8; users++) {
            AdminRoleAnalyser x = Sample.of(users, 8, 16);
            for (int far : Edges.outside(users)) {
                CHECK.due("effectiveRoles(" + far + ") of " + users, -1, x.effectiveRoles(far));
            }
        }
    }

    private static void effectiveContainsExplicit() {
        CHECK.sentence("answers effective(user) as a mask, a valid role mask containing explicit(user)");
        for (int roles = 2; roles <= 8; roles++) {
            AdminRoleAnalyser flat = new AdminRoleAnalyser(8, roles, 1);
            AdminRoleAnalyser chain = new AdminRoleAnalyser(8, roles, 1);
            for (int role = 1; role < roles; role++) {
                chain.addInheritance(role, role - 1);
            }
            for (int mask = 0; mask < 1 << roles; mask++) {
                Probe.assign(flat, 7, mask);
                Probe.assign(chain, 7, mask);
                int upTo = mask == 0 ? 0 : 2 * Integer.highestOneBit(mask) - 1;
                CHECK.due("effectiveRoles(7) without edges", mask, flat.effectiveRoles(7));
                CHECK.due("effectiveRoles(7) of a chain", upTo, chain.effectiveRoles(7));
                CHECK.due("effectiveRoles(0)", 0, chain.effectiveRoles(0));
            }
        }
    }

    private static void juniorsOutside() {
        CHECK.sentence("or -1 if role is outside 0..R-1");
        for (int roles = 2; roles <= 8; roles++) {
            AdminRoleAnalyser x = Sample.of(8, roles, 16);
            for (int far : Edges.outside(roles)) {
                CHECK.due("juniorsOf(" + far + ") of " + roles, -1, x.juniorsOf(far));
            }
        }
    }

    private static void juniorsContainTheRole() {
        CHECK.sentence("answers closure(role) as a mask, which always contains bit role");
        for (int roles = 2; roles <= 8; roles++) {
            AdminRoleAnalyser x = new AdminRoleAnalyser(1, roles, 1);
            for (int senior = 0; senior < roles; senior++) {
                CHECK.due("juniorsOf(" + senior + ")", 1 << senior, x.juniorsOf(senior));
                for (int junior = 0; junior < senior; junior++) {
                    x.addInheritance(senior, junior);
                    int due = 1 << senior | (2 << junior) - 1;
                    CHECK.due("juniorsOf(" + senior + ")", due, x.juniorsOf(senior));
                }
            }
            for (int senior = 0; senior < roles; senior++) {
                for (int junior = senior - 1; junior >= 0; junior--) {
                    x.removeInheritance(senior, junior);
                }
                CHECK.due("juniorsOf(" + senior + ") at the end", 1 << senior, x.juniorsOf(senior));
            }
        }
    }

    /** Every user holds every role, and every role every permission; those beyond are refused. */
    private static AdminRoleAnalyser allHeld(int users, int roles) {
        AdminRoleAnalyser x = new AdminRoleAnalyser(users, roles, 1);
        for (int user = 0; user < users; user++) {
            Probe.assign(x, user, 255);
        }
        for (int role = 0; role < roles; role++) {
            for (int perm = 0; perm < 16; perm++) {
                x.grantPermission(role, perm, true);
            }
            for (int far : Edges.outside(16)) {
                x.grantPermission(role, far, true);
            }
        }
        return x;
    }

    private static void has(AdminRoleAnalyser x, int user, int perm, boolean due) {
        CHECK.due("hasPermission(" + user + ", " + perm + ")", due, x.hasPermission(user, perm));
    }

    private static void permissionOfNoUser() {
        CHECK.sentence("In every other case it answers false, including out-of-range arguments: user");
        for (int users = 1; users <= 8; users++) {
            AdminRoleAnalyser x = allHeld(users, 8);
            for (int far : Edges.outside(users)) {
                for (int perm = 0; perm < 16; perm++) {
                    has(x, far, perm, false);
                }
                for (int other : Edges.nearest(16)) {
                    has(x, far, other, false);
                }
            }
            for (int perm = 0; perm < 16; perm++) {
                has(x, users - 1, perm, true);
            }
        }
    }

    private static void noPermission() {
        CHECK.sentence("In every other case it answers false, including out-of-range arguments: perm");
        for (int users = 1; users <= 8; users++) {
            AdminRoleAnalyser x = allHeld(users, 8);
            for (int far : Edges.outside(16)) {
                for (int user = 0; user < users; user++) {
                    has(x, user, far, false);
                }
            }
        }
    }

    private static void permissionOfHeldRoles() {
        CHECK.sentence("answers true iff user is in 0..U-1, perm is in 0..15, and user has permission perm");
        for (int role = 0; role < 8; role++) {
            for (int perm = 0; perm < 16; perm++) {
                AdminRoleAnalyser x = new AdminRoleAnalyser(8, 8, 1);
                x.addInheritance((role + 1) % 8, role);
                x.grantPermission(role, perm, true);
                for (int user = 0; user < 8; user++) {
                    x.setAssigned(user, user, true);
                }
                for (int user = 0; user < 8; user++) {
                    boolean holds = user == role || user == (role + 1) % 8;
                    CHECK.due("permissions of " + user, holds ? 1 << perm : 0, Check.permissions(x, user));
                }
            }
        }
    }

    private static void changeNothing() {
        String[] sentences = {
            "Promise 12: It changes nothing.", "Promise 13: It changes nothing.",
            "Promise 14: It changes nothing.", "Promise 15: It changes nothing."};
        for (int which = 0; which < 4; which++) {
            CHECK.sentence(sentences[which]);
            for (int users : Edges.from(1, 8)) {
                AdminRoleAnalyser x = Sample.of(users, 8, 16);
                for (int any : Edges.ints()) {
                    get(x, which, any);
                }
                CHECK.unchanged(() -> Sample.of(users, 8, 16), x);
            }
        }
    }

    private static void get(AdminRoleAnalyser x, int which, int any) {
        switch (which) {
            case 0 -> x.explicitRoles(any);
            case 1 -> x.effectiveRoles(any);
            case 2 -> x.juniorsOf(any);
            default -> {
                x.hasPermission(any, 0);
                x.hasPermission(0, any);
                x.hasPermission(any, any);
            }
        }
    }
}
