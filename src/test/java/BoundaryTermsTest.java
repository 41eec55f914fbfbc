/** The document's terms, sentence by sentence: masks, the hierarchy, and the general rule. */
final class BoundaryTermsTest {
    private static final Check CHECK = new Check();

    public static void main(String[] args) {
        validMasks();
        negativeMasks();
        neverACycle();
        anotherUserIsNeeded();
        changeIsOfTheSetItself();
        emptyPlan();
        lesserPlan();
        refusedChangesNothing();
        gettersChangeNothing();
        listedOrder();
        CHECK.end();
    }

    private static void validMasks() {
        CHECK.sentence("A VALID role mask has no set bit at position R or above, that is, 0 <= mask < (1 << R).");
        for (int roles = 2; roles <= 8; roles++) {
            int all = (1 << roles) - 1;
            rule(roles, Check.cond(all, 0), 0);
            rule(roles, Check.cond(0, all), 0);
            for (int bit = roles; bit < 8; bit++) {
                rule(roles, Check.cond(1 << bit, 0), Check.RANGE);
                rule(roles, Check.cond(0, 1 << bit), Check.RANGE);
                rule(roles, Check.cond(all | 1 << bit, 0), Check.RANGE);
                rule(roles, Check.cond(0, all | 1 << bit), Check.RANGE);
            }
            AdminRoleAnalyser x = new AdminRoleAnalyser(8, roles, 16);
            Probe.assign(x, 7, 255);
            CHECK.due("explicitRoles with every role", all, x.explicitRoles(7));
            CHECK.due("effectiveRoles with every role", all, x.effectiveRoles(7));
            CHECK.due("reachableRoles with every role", all, x.reachableRoles(7));
        }
    }

    private static void rule(int roles, int cond, int due) {
        AdminRoleAnalyser x = new AdminRoleAnalyser(2, roles, 16);
        CHECK.due("addRule(1, 0, 1, " + cond + ") of " + roles + " roles", due, x.addRule(1, 0, 1, cond));
    }

    private static void negativeMasks() {
        CHECK.sentence("A negative int is therefore never a valid role mask.");
        for (int roles = 2; roles <= 8; roles++) {
            for (int cond : Edges.those(i -> i < 0)) {
                rule(roles, cond, Check.RANGE);
            }
        }
    }

    private static void neverACycle() {
        CHECK.sentence("It never holds an edge (r, r) and never holds a cycle.");
        for (int number = 0; number < 200; number++) {
            AdminRoleAnalyser x = new AdminRoleAnalyser(1, 8, 1);
            Mix mix = new Mix(number);
            for (int i = 0; i < 60; i++) {
                int senior = mix.below(8);
                int junior = mix.below(8);
                boolean bars = (x.juniorsOf(junior) >> senior & 1) == 1;
                int answer = x.addInheritance(senior, junior);
                CHECK.due("an edge that would close a cycle is added", false, bars && answer == Check.OK);
                CHECK.due("an edge that closes none is refused", false, !bars && answer == Check.CYCLE);
            }
            for (int one = 0; one < 8; one++) {
                CHECK.due("removeInheritance(r, r)", Check.SAME, x.removeInheritance(one, one));
                for (int other = 0; other < one; other++) {
                    boolean both = (x.juniorsOf(one) >> other & x.juniorsOf(other) >> one & 1) == 1;
                    CHECK.due(one + " and " + other + " carry each other", false, both);
                }
            }
        }
    }

    private static void anotherUserIsNeeded() {
        CHECK.sentence("(1) some user v != u has a in effective(v), taken in the current state");
        for (int users = 1; users <= 8; users++) {
            for (int only = 0; only < users; only++) {
                AdminRoleAnalyser x = new AdminRoleAnalyser(users, 3, 2);
                x.addRule(1, 0, 1, 0);
                x.addRule(1, 1, 2, 0);
                x.setAssigned(only, 0, true);
                for (int user = 0; user < users; user++) {
                    // No one holds role 1 now, and that the user himself comes to hold it is no help.
                    CHECK.due("analyse(" + user + ", 1)", user == only ? 2 : 1, x.analyse(user, 1));
                    CHECK.due("analyse(" + user + ", 2)", 2, x.analyse(user, 2));
                    CHECK.due("reachableRoles(" + user + ")", user == only ? 1 : 2, x.reachableRoles(user));
                }
            }
        }
    }

    private static void changeIsOfTheSetItself() {
        CHECK.sentence("(4) for kind ASSIGN, t is not in S; for kind REVOKE, t is in S");
        AdminRoleAnalyser x = new AdminRoleAnalyser(2, 5, 8);
        x.setAssigned(0, 0, true);
        x.addInheritance(3, 2);
        x.setAssigned(1, 3, true);
        x.addRule(2, 0, 2, 0);
        x.addRule(1, 0, 4, Check.cond(4, 8));
        CHECK.due("2 is inherited, 3 stays", 2, x.analyse(1, 4));
        x.addRule(2, 0, 3, 0);
        CHECK.due("without 3, 2 is lost", 2, x.analyse(1, 4));
        x.addRule(1, 0, 2, Check.cond(8, 0));
        CHECK.due("2 is assigned while it is inherited", 1, x.analyse(1, 4));
        CHECK.same("witness", "w3 -1@-1 3@0 2@0 1@0 -1@-1 -1@-1", Check.witness(x));
    }

    private static void emptyPlan() {
        CHECK.sentence("The empty plan (L = 0) reaches every role of effective(u).");
        for (int users = 1; users <= 8; users++) {
            AdminRoleAnalyser x = new AdminRoleAnalyser(users, 8, 1);
            for (int role = 1; role < 8; role++) {
                x.addInheritance(role, role - 1);
            }
            for (int top = 0; top < 8; top++) {
                Probe.assign(x, users - 1, 1 << top);
                for (int role = 0; role < 8; role++) {
                    CHECK.due("analyse of " + role + " under " + top, role <= top ? 1 : 2,
                        x.analyse(users - 1, role));
                    CHECK.due("witnessLength()", role <= top ? 0 : -1, x.witnessLength());
                }
            }
        }
    }

    private static void lesserPlan() {
        CHECK.sentence("the lesser plan has the smaller rule index at the first position where the two differ");
        AdminRoleAnalyser alike = new AdminRoleAnalyser(2, 2, 16);
        alike.setAssigned(0, 0, true);
        for (int rule = 0; rule < 16; rule++) {
            alike.addRule(1, rule == 0 ? 1 : 0, 1, 0);
        }
        CHECK.due("analyse(1, 1)", 1, alike.analyse(1, 1));
        CHECK.same("the first that has an admin", "w1 -1@-1 1@0 -1@-1 -1@-1", Check.witness(alike));
        AdminRoleAnalyser either = new AdminRoleAnalyser(2, 4, 16);
        either.setAssigned(0, 0, true);
        either.addRule(1, 0, 3, Check.cond(6, 0));
        for (int rule = 1; rule < 16; rule++) {
            either.addRule(1, 0, 1 + rule % 2, 0);
        }
        CHECK.due("analyse(1, 3)", 1, either.analyse(1, 3));
        CHECK.same("1, 2 before 2, 1", "w3 -1@-1 1@0 2@0 0@0 -1@-1 -1@-1", Check.witness(either));
    }

    /** One object gets every call, the other one only those that the first did not refuse. */
    private static void refusedChangesNothing() {
        CHECK.sentence("every call that answers a negative error code changes nothing");
        for (int number = 0; number < 600; number++) {
            Mix mix = new Mix(number);
            int users = 1 + mix.below(8);
            int roles = 2 + mix.below(7);
            int rules = 1 + mix.below(16);
            AdminRoleAnalyser x = new AdminRoleAnalyser(users, roles, rules);
            AdminRoleAnalyser y = new AdminRoleAnalyser(users, roles, rules);
            for (int i = 0; i < 150; i++) {
                int[] call = {mix.below(7), any(mix), any(mix), any(mix), mix.below(3) == 0 ? any(mix) : 0};
                int answer = call(x, call);
                if (answer >= 0) {
                    CHECK.due("run " + number + " call " + i + " without the refused ones", answer, call(y, call));
                }
            }
            CHECK.same("what run " + number + " tells", Check.state(y), Check.state(x));
            CHECK.sameBut("none", Probe.of(y), Probe.of(x));
        }
    }

    private static int any(Mix mix) {
        int[] ints = Edges.ints();
        return mix.below(12) == 0 ? ints[mix.below(ints.length)] : mix.below(9) - mix.below(2);
    }

    private static int call(AdminRoleAnalyser x, int[] call) {
        boolean on = (call[3] & 1) == 0;
        return switch (call[0]) {
            case 0 -> x.addInheritance(call[1], call[2]);
            case 1 -> x.removeInheritance(call[1], call[2]);
            case 2 -> x.grantPermission(call[1], call[2], on);
            case 3 -> x.addRule(1 + (call[3] & 1), call[1], call[2], call[4]);
            case 4 -> x.setAssigned(call[1], call[2], on);
            case 5 -> x.act(call[1], call[2], call[3]);
            default -> x.analyse(call[1], call[2]);
        };
    }

    private static void gettersChangeNothing() {
        CHECK.sentence("Getters change nothing.");
        for (int users : Edges.from(1, 8)) {
            for (int roles : Edges.from(2, 8)) {
                AdminRoleAnalyser x = Sample.of(users, roles, 16);
                for (int any : Edges.ints()) {
                    x.witnessLength();
                    x.witnessRule(any);
                    x.witnessAdmin(any);
                    x.reachableRoles(any);
                    x.explicitRoles(any);
                    x.effectiveRoles(any);
                    x.juniorsOf(any);
                    x.hasPermission(any, any);
                }
                CHECK.unchanged(() -> Sample.of(users, roles, 16), x);
            }
        }
    }

    private static void listedOrder() {
        CHECK.sentence("they are examined in the listed order and the first one that holds decides the answer");
        AdminRoleAnalyser x = new AdminRoleAnalyser(2, 2, 1);
        CHECK.due("outside before a cycle", Check.RANGE, x.addInheritance(2, 2));
        CHECK.due("outside before an absent edge", Check.RANGE, x.removeInheritance(2, 0));
        CHECK.due("outside before a lacking permission", Check.RANGE, x.grantPermission(0, 16, false));
        CHECK.due("outside before a lacking role", Check.RANGE, x.setAssigned(2, 0, false));
        CHECK.due("no rule before oneself", Check.RANGE, x.act(0, 0, 0));
        CHECK.due("a wrong rule while there is room", Check.RANGE, x.addRule(0, 0, 0, 0));
        CHECK.due("a rule", 0, x.addRule(2, 0, 1, Check.cond(2, 0)));
        CHECK.due("a full list before a wrong rule", Check.FULL, x.addRule(0, 0, 0, 0));
        CHECK.due("no user before oneself", Check.RANGE, x.act(2, 2, 0));
        CHECK.due("oneself before denied", Check.SELF, x.act(0, 0, 0));
        CHECK.due("denied before preconditions", Check.DENIED, x.act(0, 1, 0));
        x.setAssigned(0, 0, true);
        CHECK.due("preconditions before no change", Check.PRECOND, x.act(0, 1, 0));
        CHECK.due("an edge", Check.OK, x.addInheritance(0, 1));
        x.setAssigned(1, 0, true);
        CHECK.due("no change at the last", Check.SAME, x.act(0, 1, 0));
        CHECK.due("an edge that is there", Check.SAME, x.addInheritance(0, 1));
        CHECK.due("an edge back", Check.CYCLE, x.addInheritance(1, 0));
    }
}
