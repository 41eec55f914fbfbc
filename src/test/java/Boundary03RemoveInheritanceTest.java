import java.util.Map;

/** Promise 3, sentence by sentence: every refusal, its order, and what stays when an edge goes. */
final class Boundary03RemoveInheritanceTest {
    private static final Check CHECK = new Check();

    public static void main(String[] args) {
        outside();
        absent();
        ofItself();
        order();
        allOtherEdgesStay();
        juniorMayStay();
        CHECK.sentence("Closures, effective sets and the permissions users have follow the new hierarchy.");
        for (int gap = 1; gap < 8; gap++) {
            closuresFollow(gap, false);
            closuresFollow(gap, true);
        }
        theRestStays();
        CHECK.end();
    }

    private static void remove(AdminRoleAnalyser x, int senior, int junior, int due) {
        CHECK.due("removeInheritance(" + senior + ", " + junior + ")", due, x.removeInheritance(senior, junior));
    }

    /** Every role over every lesser one: all the edges there can be. */
    private static AdminRoleAnalyser full(int roles) {
        AdminRoleAnalyser x = new AdminRoleAnalyser(2, roles, 4);
        for (int senior = 0; senior < roles; senior++) {
            for (int junior = 0; junior < senior; junior++) {
                x.addInheritance(senior, junior);
            }
        }
        return x;
    }

    private static void outside() {
        CHECK.sentence("senior or junior outside 0..R-1 -> `ERR_RANGE`");
        for (int roles : Edges.from(2, 8)) {
            AdminRoleAnalyser x = full(roles);
            for (int far : Edges.outside(roles)) {
                for (int role = 0; role < roles; role++) {
                    remove(x, far, role, Check.RANGE);
                    remove(x, role, far, Check.RANGE);
                }
                for (int other : Edges.nearest(roles)) {
                    remove(x, far, other, Check.RANGE);
                    remove(x, other, far, Check.RANGE);
                }
            }
            CHECK.unchanged(() -> full(roles), x);
        }
    }

    private static void absent() {
        CHECK.sentence("the direct edge (senior, junior) is absent -> `ERR_SAME`");
        for (int roles : Edges.from(2, 8)) {
            AdminRoleAnalyser x = full(roles);
            for (int senior = 0; senior < roles; senior++) {
                for (int junior = senior + 1; junior < roles; junior++) {
                    remove(x, senior, junior, Check.SAME);
                }
            }
            CHECK.unchanged(() -> full(roles), x);
            x = full(roles);
            remove(x, roles - 1, 0, Check.OK);
            remove(x, roles - 1, 0, Check.SAME);
            remove(x, roles - 1, 0, Check.SAME);
        }
    }

    private static void ofItself() {
        CHECK.sentence("This includes senior == junior, since such an edge never exists.");
        for (int roles : Edges.from(2, 8)) {
            AdminRoleAnalyser x = full(roles);
            for (int role = 0; role < roles; role++) {
                remove(x, role, role, Check.SAME);
                CHECK.due("juniorsOf(" + role + ")", (2 << role) - 1, x.juniorsOf(role));
                x.addInheritance(role, role);
                remove(x, role, role, Check.SAME);
            }
            CHECK.unchanged(() -> full(roles), x);
        }
    }

    private static void order() {
        CHECK.sentence("Promise 3: The conditions, in order");
        AdminRoleAnalyser x = new AdminRoleAnalyser(1, 3, 1);
        for (int far : Edges.outside(3)) {
            remove(x, far, far, Check.RANGE);
            remove(x, far, 0, Check.RANGE);
            remove(x, 0, far, Check.RANGE);
        }
    }

    private static void allOtherEdgesStay() {
        CHECK.sentence("All other edges stay.");
        for (int senior = 1; senior < 8; senior++) {
            for (int junior = 0; junior < senior; junior++) {
                AdminRoleAnalyser x = full(8);
                remove(x, senior, junior, Check.OK);
                String gone = " " + senior + ">" + junior;
                String due = Probe.of(full(8)).get("edges").replace(gone, "");
                CHECK.same("edges without" + gone, due, Probe.of(x).get("edges"));
            }
        }
    }

    private static void juniorMayStay() {
        CHECK.sentence("junior may still be in closure(senior) through other edges.");
        for (int senior = 1; senior < 8; senior++) {
            for (int junior = 0; junior < senior; junior++) {
                AdminRoleAnalyser x = full(8);
                remove(x, senior, junior, Check.OK);
                int all = (2 << senior) - 1;
                boolean otherWay = senior - junior > 1;
                CHECK.due("juniorsOf(" + senior + ")", otherWay ? all : all & ~(1 << junior), x.juniorsOf(senior));
                remove(x, senior, junior, Check.SAME);
            }
        }
    }

    /** A chain of eight roles that loses the edge at the gap. */
    private static void closuresFollow(int gap, boolean turned) {
        AdminRoleAnalyser x = new AdminRoleAnalyser(8, 8, 1);
        for (int i = 0; i < 8; i++) {
            x.addInheritance(turned ? i : i + 1, turned ? i + 1 : i);
            x.setAssigned(i, i, true);
            x.grantPermission(i, i, true);
        }
        remove(x, turned ? 7 - gap : gap, turned ? 8 - gap : gap - 1, Check.OK);
        for (int place = 0; place < 8; place++) {
            int run = (2 << place) - (place >= gap ? 1 << gap : 1);
            int role = turned ? 7 - place : place;
            int due = turned ? Integer.reverse(run) >>> 24 : run;
            CHECK.due("juniorsOf(" + role + ")", due, x.juniorsOf(role));
            CHECK.due("effectiveRoles(" + role + ")", due, x.effectiveRoles(role));
            CHECK.due("permissions of " + role, due, Check.permissions(x, role));
        }
    }

    private static void theRestStays() {
        CHECK.sentence("Promise 3: Explicit assignments, role permissions, rules and the stored witness do not"
            + " change.");
        Map<String, String> before = Probe.of(Sample.of(4, 8, 16));
        for (int senior = 0; senior < 8; senior++) {
            for (int junior = 0; junior < 8; junior++) {
                AdminRoleAnalyser x = Sample.of(4, 8, 16);
                if (x.removeInheritance(senior, junior) == Check.OK) {
                    CHECK.sameBut("edges", before, Probe.of(x));
                }
            }
        }
    }
}
