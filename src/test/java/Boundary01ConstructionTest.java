/** Promise 1, sentence by sentence: sizes too small and too large, and the empty start. */
final class Boundary01ConstructionTest {
    private static final Check CHECK = new Check();

    public static void main(String[] args) {
        everyIntIsAccepted();
        tooFew();
        tooMany();
        kept();
        sizesNeverChange();
        noEdges();
        noAssignments();
        noPermissions();
        noRules();
        noWitness();
        CHECK.end();
    }

    private static void sized(int users, int roles, int rules, String due) {
        String made = "the size of new(" + users + ", " + roles + ", " + rules + ")";
        CHECK.same(made, due, Probe.sizes(new AdminRoleAnalyser(users, roles, rules)));
    }

    private static int clamped(int value, int least, int greatest) {
        return Math.max(least, Math.min(greatest, value));
    }

    private static void everyIntIsAccepted() {
        CHECK.sentence("accepts every int value for each argument and never refuses");
        int[] some = {Edges.MIN, -1, 0, 1, 2, 3, 8, 9, 16, 17, Edges.MAX};
        for (int users : some) {
            for (int roles : some) {
                for (int rules : some) {
                    sized(users, roles, rules, clamped(users, 1, 8) + " " + clamped(roles, 2, 8)
                        + " " + clamped(rules, 1, 16));
                }
            }
        }
    }

    private static void tooFew() {
        CHECK.sentence("a value below 1 becomes 1");
        for (int users : Edges.those(i -> i < 1)) {
            sized(users, 5, 3, "1 5 3");
        }
        CHECK.sentence("R is `roles` clamped into 2..8 in the same way: too few");
        for (int roles : Edges.those(i -> i < 2)) {
            sized(4, roles, 3, "4 2 3");
        }
        CHECK.sentence("C is `rules` clamped into 1..16 in the same way: too few");
        for (int rules : Edges.those(i -> i < 1)) {
            sized(4, 5, rules, "4 5 1");
        }
    }

    private static void tooMany() {
        CHECK.sentence("a value above 8 becomes 8");
        for (int users : Edges.those(i -> i > 8)) {
            sized(users, 5, 3, "8 5 3");
        }
        CHECK.sentence("R is `roles` clamped into 2..8 in the same way: too many");
        for (int roles : Edges.those(i -> i > 8)) {
            sized(4, roles, 3, "4 8 3");
        }
        CHECK.sentence("C is `rules` clamped into 1..16 in the same way: too many");
        for (int rules : Edges.those(i -> i > 16)) {
            sized(4, 5, rules, "4 5 16");
        }
    }

    private static void kept() {
        CHECK.sentence("any other value is kept");
        for (int users = 1; users <= 8; users++) {
            sized(users, 5, 3, users + " 5 3");
        }
        CHECK.sentence("R is `roles` clamped into 2..8 in the same way: kept");
        for (int roles = 2; roles <= 8; roles++) {
            sized(4, roles, 3, "4 " + roles + " 3");
        }
        CHECK.sentence("C is `rules` clamped into 1..16 in the same way: kept");
        for (int rules = 1; rules <= 16; rules++) {
            sized(4, 5, rules, "4 5 " + rules);
        }
    }

    private static void sizesNeverChange() {
        CHECK.sentence("U, R and C never change afterwards.");
        for (int users = 1; users <= 8; users++) {
            for (int roles = 2; roles <= 8; roles++) {
                int rules = users * 2;
                AdminRoleAnalyser x = Sample.of(users, roles, rules);
                Check.state(x);
                for (int far : Edges.ints()) {
                    x.addInheritance(far, 0);
                    x.setAssigned(far, 0, false);
                    x.act(0, far, 0);
                    x.analyse(far, far);
                    x.removeInheritance(1, far);
                }
                new AdminRoleAnalyser(9 - users, 10 - roles, 17 - rules);
                CHECK.same("the size of " + users + " " + roles + " " + rules,
                    users + " " + roles + " " + rules, Probe.sizes(x));
            }
        }
    }

    private static void noEdges() {
        CHECK.sentence("There are no edges, so closure(r) = {r} for every role.");
        for (int roles = 2; roles <= 8; roles++) {
            AdminRoleAnalyser x = new AdminRoleAnalyser(8, roles, 16);
            for (int senior = 0; senior < roles; senior++) {
                CHECK.due("juniorsOf(" + senior + ")", 1 << senior, x.juniorsOf(senior));
                for (int junior = 0; junior < roles; junior++) {
                    CHECK.due("removeInheritance(" + senior + ", " + junior + ")",
                        Check.SAME, x.removeInheritance(senior, junior));
                }
            }
        }
    }

    private static void noAssignments() {
        CHECK.sentence("There are no assignments, so explicit(u) and effective(u) are empty for every user.");
        for (int users = 1; users <= 8; users++) {
            AdminRoleAnalyser x = new AdminRoleAnalyser(users, 8, 16);
            for (int user = 0; user < users; user++) {
                CHECK.due("explicitRoles(" + user + ")", 0, x.explicitRoles(user));
                CHECK.due("effectiveRoles(" + user + ")", 0, x.effectiveRoles(user));
                CHECK.due("reachableRoles(" + user + ")", 0, x.reachableRoles(user));
                for (int role = 0; role < 8; role++) {
                    CHECK.due("setAssigned(" + user + ", " + role + ", false)",
                        Check.SAME, x.setAssigned(user, role, false));
                }
            }
        }
    }

    private static void noPermissions() {
        CHECK.sentence("No role holds any permission.");
        for (int roles = 2; roles <= 8; roles++) {
            AdminRoleAnalyser x = new AdminRoleAnalyser(1, roles, 1);
            Probe.assign(x, 0, (1 << roles) - 1);
            CHECK.due("permissions of a user with all roles", 0, Check.permissions(x, 0));
            for (int role = 0; role < roles; role++) {
                for (int perm = 0; perm < 16; perm++) {
                    CHECK.due("grantPermission(" + role + ", " + perm + ", false)",
                        Check.SAME, x.grantPermission(role, perm, false));
                }
            }
        }
    }

    private static void noRules() {
        CHECK.sentence("There are no rules (count = 0).");
        for (int rules = 1; rules <= 16; rules++) {
            AdminRoleAnalyser x = new AdminRoleAnalyser(2, 2, rules);
            Probe.assign(x, 0, 3);
            for (int rule : Edges.ints()) {
                CHECK.due("act(0, 1, " + rule + ")", Check.RANGE, x.act(0, 1, rule));
            }
            CHECK.due("reachableRoles(1)", 0, x.reachableRoles(1));
            CHECK.due("the first rule of " + rules, 0, x.addRule(1, 0, 1, 0));
        }
    }

    private static void noWitness() {
        CHECK.sentence("The stored witness length is -1.");
        for (int users = 1; users <= 8; users++) {
            AdminRoleAnalyser x = new AdminRoleAnalyser(users, 8, 16);
            CHECK.due("witnessLength()", -1, x.witnessLength());
            CHECK.due("witnessRule(0)", -1, x.witnessRule(0));
            CHECK.due("witnessAdmin(0)", -1, x.witnessAdmin(0));
        }
    }
}
