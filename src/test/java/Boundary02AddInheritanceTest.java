import java.util.Map;

/** Promise 2, sentence by sentence: every refusal, its order, and edges that are known already. */
final class Boundary02AddInheritanceTest {
    private static final Check CHECK = new Check();

    public static void main(String[] args) {
        outside();
        ofItself();
        presentAlready();
        backwards();
        order();
        onlyTheDirectEdge();
        knownThroughOthers();
        CHECK.sentence("After a successful call, closure, eff and effective(u) for every user reflect the new"
            + " edge, and so do the permissions users have.");
        closuresFollow(false);
        closuresFollow(true);
        theRestStays();
        CHECK.end();
    }

    private static void add(AdminRoleAnalyser x, int senior, int junior, int due) {
        CHECK.due("addInheritance(" + senior + ", " + junior + ")", due, x.addInheritance(senior, junior));
    }

    private static AdminRoleAnalyser chain(int roles) {
        AdminRoleAnalyser x = new AdminRoleAnalyser(2, roles, 4);
        for (int role = 1; role < roles; role++) {
            x.addInheritance(role, role - 1);
        }
        return x;
    }

    private static void outside() {
        CHECK.sentence("senior or junior outside 0..R-1 -> `ERR_RANGE`");
        for (int roles : Edges.from(2, 8)) {
            AdminRoleAnalyser x = Sample.of(3, roles, 4);
            for (int far : Edges.outside(roles)) {
                for (int role = 0; role < roles; role++) {
                    add(x, far, role, Check.RANGE);
                    add(x, role, far, Check.RANGE);
                }
                for (int other : Edges.nearest(roles)) {
                    add(x, far, other, Check.RANGE);
                    add(x, other, far, Check.RANGE);
                }
            }
            CHECK.unchanged(() -> Sample.of(3, roles, 4), x);
        }
    }

    private static void ofItself() {
        CHECK.sentence("senior == junior -> `ERR_CYCLE`");
        for (int roles : Edges.from(2, 8)) {
            AdminRoleAnalyser x = new AdminRoleAnalyser(1, roles, 1);
            AdminRoleAnalyser y = Sample.of(3, roles, 4);
            for (int role = 0; role < roles; role++) {
                add(x, role, role, Check.CYCLE);
                add(y, role, role, Check.CYCLE);
                add(y, role, role, Check.CYCLE);
                CHECK.due("juniorsOf(" + role + ")", 1 << role, x.juniorsOf(role));
            }
            CHECK.unchanged(() -> Sample.of(3, roles, 4), y);
        }
    }

    private static void presentAlready() {
        CHECK.sentence("the direct edge (senior, junior) is already present -> `ERR_SAME`");
        for (int senior = 0; senior < 8; senior++) {
            for (int junior = 0; junior < 8; junior++) {
                if (senior != junior) {
                    AdminRoleAnalyser x = new AdminRoleAnalyser(1, 8, 1);
                    add(x, senior, junior, Check.OK);
                    add(x, senior, junior, Check.SAME);
                    add(x, senior, junior, Check.SAME);
                    CHECK.due("juniorsOf(" + senior + ")", 1 << senior | 1 << junior, x.juniorsOf(senior));
                }
            }
        }
    }

    private static void backwards() {
        CHECK.sentence("senior is in closure(junior) -> `ERR_CYCLE`");
        for (int roles : Edges.from(2, 8)) {
            AdminRoleAnalyser x = chain(roles);
            AdminRoleAnalyser y = new AdminRoleAnalyser(2, roles, 4);
            for (int role = 1; role < roles; role++) {
                y.addInheritance(role - 1, role);
            }
            for (int lower = 0; lower < roles; lower++) {
                for (int upper = lower + 1; upper < roles; upper++) {
                    add(x, lower, upper, Check.CYCLE);
                    add(y, upper, lower, Check.CYCLE);
                }
            }
            CHECK.unchanged(() -> chain(roles), x);
        }
    }

    private static void order() {
        CHECK.sentence("Promise 2: The conditions, in order");
        AdminRoleAnalyser x = chain(8);
        for (int far : Edges.outside(8)) {
            add(x, far, far, Check.RANGE);
        }
        // An edge that is there is told as such wherever its roles stand in the hierarchy.
        for (int role = 1; role < 8; role++) {
            add(x, role, role - 1, Check.SAME);
            add(x, role - 1, role, Check.CYCLE);
        }
    }

    private static void onlyTheDirectEdge() {
        CHECK.sentence("Only the presence of the direct edge itself gives `ERR_SAME`.");
        for (int upper = 2; upper < 8; upper++) {
            for (int lower = 0; lower < upper - 1; lower++) {
                AdminRoleAnalyser x = chain(8);
                add(x, upper, lower, Check.OK);
                add(x, upper, lower, Check.SAME);
                CHECK.due("removeInheritance", Check.OK, x.removeInheritance(upper, lower));
                add(x, upper, lower, Check.OK);
            }
        }
    }

    private static void knownThroughOthers() {
        CHECK.sentence("Adding (senior, junior) is accepted when junior is already in closure(senior) through"
            + " other edges, provided no condition above holds.");
        AdminRoleAnalyser x = chain(8);
        for (int upper = 2; upper < 8; upper++) {
            for (int lower = upper - 2; lower >= 0; lower--) {
                add(x, upper, lower, Check.OK);
                CHECK.due("juniorsOf(" + upper + ")", (2 << upper) - 1, x.juniorsOf(upper));
            }
        }
        // All the 28 edges that eight roles can have are there now.
        for (int upper = 0; upper < 8; upper++) {
            for (int lower = 0; lower < upper; lower++) {
                add(x, upper, lower, Check.SAME);
                add(x, lower, upper, Check.CYCLE);
            }
            add(x, upper, upper, Check.CYCLE);
        }
    }

    /** Joins eight roles to a chain from the middle outwards, so that an edge has chains on both sides. */
    private static void closuresFollow(boolean turned) {
        AdminRoleAnalyser x = new AdminRoleAnalyser(8, 8, 1);
        for (int i = 0; i < 8; i++) {
            x.setAssigned(i, i, true);
            x.grantPermission(i, 8 + i, true);
        }
        int[] seniors = {4, 6, 2, 7, 1, 3, 5};
        boolean[] joined = new boolean[8];
        for (int senior : seniors) {
            add(x, turned ? 7 - senior : senior, turned ? 8 - senior : senior - 1, Check.OK);
            joined[senior] = true;
            for (int place = 0; place < 8; place++) {
                int lowest = place;
                while (joined[lowest]) {
                    lowest--;
                }
                int run = (2 << place) - (1 << lowest);
                int role = turned ? 7 - place : place;
                int due = turned ? Integer.reverse(run) >>> 24 : run;
                CHECK.due("juniorsOf(" + role + ")", due, x.juniorsOf(role));
                CHECK.due("effectiveRoles(" + role + ")", due, x.effectiveRoles(role));
                CHECK.due("permissions of " + role, due << 8, Check.permissions(x, role));
            }
        }
    }

    private static void theRestStays() {
        CHECK.sentence("Promise 2: Explicit assignments, role permissions, rules and the stored witness do not"
            + " change.");
        Map<String, String> before = Probe.of(Sample.of(4, 8, 16));
        for (int senior = 0; senior < 8; senior++) {
            for (int junior = 0; junior < 8; junior++) {
                AdminRoleAnalyser x = Sample.of(4, 8, 16);
                if (x.addInheritance(senior, junior) == Check.OK) {
                    CHECK.sameBut("edges", before, Probe.of(x));
                }
            }
        }
    }
}
