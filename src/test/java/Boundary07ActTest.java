import java.util.Map;

/** Promise 7, sentence by sentence: every refusal, every pair of them, and what an act changes. */
final class Boundary07ActTest {
    private static final Check CHECK = new Check();

    public static void main(String[] args) {
        usersOutside();
        rulesOutside();
        onOneself();
        notTheAdmin();
        missingRoles();
        forbiddenRoles();
        noChange();
        order();
        orderOfTheLast();
        addedOrRemoved();
        judgedOnEffective();
        inheritedRoles();
        onlyThatUser();
        theRestStays();
        CHECK.end();
    }

    private static void act(AdminRoleAnalyser x, int admin, int user, int rule, int due) {
        CHECK.due("act(" + admin + ", " + user + ", " + rule + ")", due, x.act(admin, user, rule));
    }

    private static void usersOutside() {
        CHECK.sentence("admin or user outside 0..U-1");
        for (int users : Edges.from(1, 8)) {
            AdminRoleAnalyser x = Sample.of(users, 4, 4);
            for (int far : Edges.outside(users)) {
                for (int user = 0; user < users; user++) {
                    act(x, far, user, 0, Check.RANGE);
                    act(x, user, far, 0, Check.RANGE);
                }
                for (int other : Edges.nearest(users)) {
                    act(x, far, other, 0, Check.RANGE);
                    act(x, other, far, 0, Check.RANGE);
                }
            }
            CHECK.unchanged(() -> Sample.of(users, 4, 4), x);
        }
    }

    /** User 0 is the admin of as many rules as told, all of which assign role 1. */
    private static AdminRoleAnalyser withRules(int capacity, int count) {
        AdminRoleAnalyser x = new AdminRoleAnalyser(2, 2, capacity);
        x.setAssigned(0, 0, true);
        for (int rule = 0; rule < count; rule++) {
            x.addRule(1, 0, 1, 0);
        }
        return x;
    }

    private static void rulesOutside() {
        CHECK.sentence("or rule outside 0..count-1 -> `ERR_RANGE`");
        for (int count : Edges.from(0, 16)) {
            AdminRoleAnalyser x = withRules(16, count);
            AdminRoleAnalyser full = withRules(count, count);
            for (int far : Edges.outside(count)) {
                act(x, 0, 1, far, Check.RANGE);
                if (count > 0) {
                    act(full, 0, 1, far, Check.RANGE);
                }
            }
            CHECK.unchanged(() -> withRules(16, count), x);
            for (int rule = 0; rule < count; rule++) {
                act(withRules(16, count), 0, 1, rule, Check.OK);
            }
        }
    }

    private static void onOneself() {
        CHECK.sentence("admin == user -> `ERR_SELF`");
        for (int users : Edges.from(1, 8)) {
            AdminRoleAnalyser x = Sample.of(users, 4, 8);
            for (int user = 0; user < users; user++) {
                for (int rule = 0; rule < 7; rule++) {
                    act(x, user, user, rule, Check.SELF);
                }
            }
            CHECK.unchanged(() -> Sample.of(users, 4, 8), x);
        }
    }

    private static void notTheAdmin() {
        CHECK.sentence("a not in effective(admin) -> `ERR_DENIED`");
        for (int role = 0; role < 8; role++) {
            AdminRoleAnalyser x = new AdminRoleAnalyser(8, 8, 1);
            x.addRule(1, role, 0, 0);
            act(x, 0, 7, 0, Check.DENIED);
            Probe.assign(x, 0, 255 & ~(1 << role));
            Probe.assign(x, 7, 1 << role);
            act(x, 0, 7, 0, Check.DENIED);
            CHECK.due("explicitRoles(7)", 1 << role, x.explicitRoles(7));
            // By inheritance alone he holds it as well.
            x.addInheritance((role + 1) % 8, role);
            act(x, 0, 6, 0, Check.OK);
            x.removeInheritance((role + 1) % 8, role);
            act(x, 0, 5, 0, Check.DENIED);
        }
    }

    /** Answers to an assignment of role 7 under this condition, for every set of the roles below it. */
    private static void judge(int pos, int neg) {
        AdminRoleAnalyser x = new AdminRoleAnalyser(2, 8, 1);
        x.setAssigned(0, 0, true);
        x.addRule(1, 0, 7, Check.cond(pos, neg));
        for (int mask = 0; mask < 128; mask++) {
            Probe.assign(x, 1, mask);
            boolean meets = (mask & pos) == pos && (mask & neg) == 0;
            act(x, 0, 1, 0, meets ? Check.OK : Check.PRECOND);
            CHECK.due("explicitRoles(1)", meets ? mask | 128 : mask, x.explicitRoles(1));
        }
    }

    /** A rule on role 7 whose condition names all roles is met by one set alone. */
    private static void onlyFor(int set, int kind, int cond) {
        AdminRoleAnalyser x = new AdminRoleAnalyser(2, 8, 1);
        x.setAssigned(0, 0, true);
        x.addRule(kind, 0, 7, cond);
        for (int mask = 0; mask < 256; mask++) {
            Probe.assign(x, 1, mask);
            act(x, 0, 1, 0, mask == set ? Check.OK : Check.PRECOND);
        }
    }

    private static void missingRoles() {
        CHECK.sentence("some role of pos not in effective(user)");
        for (int pos = 0; pos < 128; pos++) {
            judge(pos, 0);
        }
        onlyFor(255, 2, Check.cond(255, 0));
    }

    private static void forbiddenRoles() {
        CHECK.sentence("or some role of neg in effective(user) -> `ERR_PRECOND`");
        for (int neg = 0; neg < 128; neg++) {
            judge(0, neg);
            judge(127 & ~neg, neg);
        }
        onlyFor(0, 1, Check.cond(0, 255));
    }

    private static void noChange() {
        CHECK.sentence("ASSIGN with t in explicit(user), or REVOKE with t not in explicit(user) -> `ERR_SAME`");
        for (int target = 0; target < 8; target++) {
            AdminRoleAnalyser x = new AdminRoleAnalyser(8, 8, 2);
            x.setAssigned(7, 0, true);
            x.addRule(1, 0, target, 0);
            x.addRule(2, 0, target, 0);
            for (int mask = 0; mask < 256; mask++) {
                Probe.assign(x, 0, mask);
                boolean held = (mask >> target & 1) == 1;
                act(x, 7, 0, held ? 0 : 1, Check.SAME);
                CHECK.due("explicitRoles(0)", mask, x.explicitRoles(0));
            }
        }
    }

    /** User 0 lacks the admin role, user 1 the needed one; user 2 may act; user 3 holds the target. */
    private static AdminRoleAnalyser refuser() {
        AdminRoleAnalyser x = new AdminRoleAnalyser(4, 4, 2);
        x.addRule(1, 3, 2, Check.cond(1, 2));
        x.setAssigned(2, 3, true);
        Probe.assign(x, 3, 4);
        return x;
    }

    private static void order() {
        CHECK.sentence("Promise 7: Let a, t, pos and neg be the rule's parts. The conditions, in order");
        AdminRoleAnalyser x = refuser();
        for (int far : Edges.outside(4)) {
            act(x, far, far, 0, Check.RANGE);
            act(x, far, 1, 0, Check.RANGE);
            act(x, 0, far, 0, Check.RANGE);
            act(x, 2, far, 0, Check.RANGE);
        }
        for (int far : Edges.outside(1)) {
            act(x, 0, 0, far, Check.RANGE);
            act(x, 2, 2, far, Check.RANGE);
            act(x, 0, 1, far, Check.RANGE);
            act(x, 2, 3, far, Check.RANGE);
        }
        act(x, 0, 0, 0, Check.SELF);
        act(x, 2, 2, 0, Check.SELF);
        act(x, 3, 3, 0, Check.SELF);
        act(x, 0, 1, 0, Check.DENIED);
        act(x, 0, 3, 0, Check.DENIED);
        act(x, 3, 2, 0, Check.DENIED);
        CHECK.unchanged(Boundary07ActTest::refuser, x);
    }

    private static void orderOfTheLast() {
        CHECK.sentence("Promise 7: the first one that holds decides the answer, of conditions 3 to 5");
        AdminRoleAnalyser x = refuser();
        act(x, 2, 3, 0, Check.PRECOND);
        x.setAssigned(3, 0, true);
        act(x, 0, 3, 0, Check.DENIED);
        act(x, 2, 3, 0, Check.SAME);
        x.setAssigned(3, 1, true);
        act(x, 2, 3, 0, Check.PRECOND);
        x.addRule(2, 3, 3, Check.cond(1, 2));
        act(x, 2, 3, 1, Check.PRECOND);
        x.setAssigned(3, 1, false);
        act(x, 2, 3, 1, Check.SAME);
        act(x, 0, 3, 1, Check.DENIED);
        x.setAssigned(3, 2, false);
        act(x, 2, 3, 0, Check.OK);
    }

    private static void addedOrRemoved() {
        CHECK.sentence("Otherwise t is added to explicit(user) (ASSIGN) or removed from it (REVOKE), and the"
            + " answer is `OK`.");
        for (int target = 0; target < 8; target++) {
            AdminRoleAnalyser x = new AdminRoleAnalyser(8, 8, 2);
            x.addInheritance(6, 5);
            x.addInheritance(1, 0);
            x.setAssigned(0, 7, true);
            x.addRule(1, 7, target, 0);
            x.addRule(2, 7, target, 0);
            for (int mask = 0; mask < 256; mask++) {
                Probe.assign(x, 7, mask);
                boolean held = (mask >> target & 1) == 1;
                act(x, 0, 7, held ? 1 : 0, Check.OK);
                CHECK.due("explicitRoles(7)", mask ^ 1 << target, x.explicitRoles(7));
            }
        }
    }

    private static void judgedOnEffective() {
        CHECK.sentence("The preconditions are judged on effective(user), but condition 5 is judged on"
            + " explicit(user).");
        for (int junior = 0; junior < 6; junior++) {
            for (int senior = junior + 1; senior < 7; senior++) {
                AdminRoleAnalyser x = new AdminRoleAnalyser(2, 8, 4);
                for (int role = junior; role < senior; role++) {
                    x.addInheritance(role + 1, role);
                }
                x.addRule(1, 7, 7, Check.cond(1 << junior, 0));
                x.addRule(2, 7, 7, Check.cond(0, 1 << junior));
                x.addRule(1, 7, junior, 0);
                x.setAssigned(0, 7, true);
                act(x, 0, 1, 0, Check.PRECOND);
                act(x, 0, 1, 1, Check.SAME);
                x.setAssigned(1, senior, true);
                act(x, 0, 1, 1, Check.PRECOND);
                act(x, 0, 1, 0, Check.OK);
                act(x, 0, 1, 2, Check.OK);
                act(x, 0, 1, 2, Check.SAME);
            }
        }
    }

    private static void inheritedRoles() {
        CHECK.sentence("an ASSIGN of a role the user holds only through inheritance is accepted, and a REVOKE of"
            + " such a role is refused with `ERR_SAME`");
        for (int target = 0; target < 7; target++) {
            for (int senior = target + 1; senior < 8; senior++) {
                AdminRoleAnalyser x = new AdminRoleAnalyser(2, 8, 2);
                for (int role = target; role < senior; role++) {
                    x.addInheritance(role + 1, role);
                }
                // The precondition that the target is held is met, though not by assignment.
                x.addRule(1, 0, target, Check.cond(1 << target, 0));
                x.addRule(2, 0, target, Check.cond(1 << target, 0));
                x.setAssigned(0, 0, true);
                x.setAssigned(1, senior, true);
                int effective = x.effectiveRoles(1);
                act(x, 0, 1, 1, Check.SAME);
                CHECK.due("explicitRoles(1)", 1 << senior, x.explicitRoles(1));
                act(x, 0, 1, 0, Check.OK);
                CHECK.due("explicitRoles(1)", 1 << senior | 1 << target, x.explicitRoles(1));
                act(x, 0, 1, 1, Check.OK);
                CHECK.due("explicitRoles(1)", 1 << senior, x.explicitRoles(1));
                CHECK.due("effectiveRoles(1)", effective, x.effectiveRoles(1));
            }
        }
    }

    /** Four users whose explicit and effective sets differ, all of them admins of all rules. */
    private static AdminRoleAnalyser crowd() {
        AdminRoleAnalyser x = new AdminRoleAnalyser(4, 6, 16);
        x.addInheritance(5, 4);
        x.addInheritance(4, 3);
        for (int user = 0; user < 4; user++) {
            Probe.assign(x, user, 1 | 2 << user);
        }
        for (int role = 0; role < 6; role++) {
            x.grantPermission(role, role, true);
            x.addRule(1, 0, role, 0);
            x.addRule(2, 0, role, 0);
        }
        x.analyse(0, 5);
        return x;
    }

    private static void onlyThatUser() {
        CHECK.sentence("Only explicit(user) changes. effective(user) and that user's permissions follow it.");
        AdminRoleAnalyser before = crowd();
        for (int admin = 0; admin < 4; admin++) {
            for (int user = 0; user < 4; user++) {
                for (int rule = 0; rule < 12; rule++) {
                    AdminRoleAnalyser x = crowd();
                    if (x.act(admin, user, rule) == Check.OK) {
                        compareUsers(before, x, user, 1 << rule / 2);
                    }
                }
            }
        }
    }

    private static void compareUsers(AdminRoleAnalyser before, AdminRoleAnalyser x, int changed, int bit) {
        for (int user = 0; user < 4; user++) {
            int explicit = before.explicitRoles(user) ^ (user == changed ? bit : 0);
            int effective = explicit | ((explicit & 32) != 0 ? 24 : 0) | ((explicit & 16) != 0 ? 8 : 0);
            CHECK.due("explicitRoles(" + user + ")", explicit, x.explicitRoles(user));
            CHECK.due("effectiveRoles(" + user + ")", effective, x.effectiveRoles(user));
            CHECK.due("permissions of " + user, effective, Check.permissions(x, user));
        }
    }

    private static void theRestStays() {
        CHECK.sentence("The admin's sets, all other users, the hierarchy, permissions, rules and the stored"
            + " witness do not change.");
        Map<String, String> before = Probe.of(crowd());
        for (int user = 0; user < 4; user++) {
            for (int rule = 0; rule < 12; rule++) {
                AdminRoleAnalyser x = crowd();
                x.act((user + 1) % 4, user, rule);
                CHECK.sameBut("explicit", before, Probe.of(x));
            }
        }
    }
}
