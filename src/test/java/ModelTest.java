/**
 * All promises together: long runs of mixed calls, the same each time, against the model, and
 * the consequences that promise 8 names for the caller.
 */
final class ModelTest {
    private static final Check CHECK = new Check();
    private static final int RUNS = 400;
    private static final int CALLS = 120;
    private static final Mix MIX = new Mix(20261115L);
    private static int longest = 0;

    public static void main(String[] args) {
        for (int run = 0; run < RUNS; run++) {
            mixedRun(run);
        }
        for (int run = 0; run < RUNS; run++) {
            plannedRun(run);
        }
        System.out.println("longest plan met: " + longest);
        CHECK.due("plans of many steps are met", true, longest >= 20);
        CHECK.end();
    }

    /** Mostly a number of the range, now and then one beside it or far from it. */
    private static int near(int bound) {
        int pick = MIX.below(40);
        if (pick == 0) {
            return -1;
        }
        if (pick == 1) {
            return bound;
        }
        if (pick == 2) {
            return MIX.below(2) == 0 ? Integer.MIN_VALUE + MIX.below(9) : Integer.MAX_VALUE - MIX.below(9);
        }
        return MIX.below(bound);
    }

    private static int someCond(int roles) {
        int pick = MIX.below(12);
        if (pick == 0) {
            return MIX.below(1 << 17);
        }
        if (pick == 1) {
            return -1 - MIX.below(70000);
        }
        int positive = MIX.below(1 << roles) & MIX.below(1 << roles) & MIX.below(1 << roles);
        int negative = MIX.below(1 << roles) & MIX.below(1 << roles) & ~positive;
        return Check.cond(positive, negative);
    }

    private static void mixedRun(int run) {
        int users = MIX.below(11) - 1;
        int roles = MIX.below(run % 8 == 0 ? 11 : 7) - 1;
        int rules = MIX.below(20) - 1;
        AdminRoleAnalyser x = new AdminRoleAnalyser(users, roles, rules);
        Model m = new Model(users, roles, rules);
        for (int call = 0; call < CALLS; call++) {
            oneCall("run " + run + " call " + call + ": ", x, m);
        }
        compareAll("run " + run + " end: ", x, m);
    }

    private static void oneCall(String at, AdminRoleAnalyser x, Model m) {
        int user = near(m.users);
        int other = near(m.users);
        int role = near(m.roles);
        int junior = near(m.roles);
        int perm = near(16);
        int rule = near(m.capacity);
        boolean on = MIX.below(3) > 0;
        switch (MIX.below(14)) {
            case 0, 1 -> CHECK.due(at + "addInheritance",
                m.addInheritance(role, junior), x.addInheritance(role, junior));
            case 2 -> CHECK.due(at + "removeInheritance",
                m.removeInheritance(role, junior), x.removeInheritance(role, junior));
            case 3 -> CHECK.due(at + "grantPermission",
                m.grantPermission(role, perm, on), x.grantPermission(role, perm, on));
            case 4, 5 -> {
                int kind = MIX.below(20) == 0 ? MIX.below(6) - 1 : 1 + MIX.below(2);
                int cond = someCond(m.roles);
                CHECK.due(at + "addRule", m.addRule(kind, role, junior, cond), x.addRule(kind, role, junior, cond));
            }
            case 6, 7 -> CHECK.due(at + "setAssigned", m.setAssigned(user, role, on), x.setAssigned(user, role, on));
            case 8, 9, 10 -> CHECK.due(at + "act", m.act(user, other, rule), x.act(user, other, rule));
            case 11 -> {
                CHECK.due(at + "analyse", m.analyse(user, role), x.analyse(user, role));
                compareWitness(at, x, m);
            }
            case 12 -> CHECK.due(at + "reachableRoles", m.reachableRoles(user), x.reachableRoles(user));
            default -> compareGetters(at, x, m);
        }
    }

    private static void compareWitness(String at, AdminRoleAnalyser x, Model m) {
        CHECK.due(at + "witnessLength", m.witnessLength(), x.witnessLength());
        for (int k = -1; k <= m.witnessLength() + 1; k++) {
            CHECK.due(at + "witnessRule " + k, m.witnessRule(k), x.witnessRule(k));
            CHECK.due(at + "witnessAdmin " + k, m.witnessAdmin(k), x.witnessAdmin(k));
        }
        longest = Math.max(longest, x.witnessLength());
    }

    private static void compareGetters(String at, AdminRoleAnalyser x, Model m) {
        compareWitness(at, x, m);
        for (int i = -1; i <= 8; i++) {
            CHECK.due(at + "explicitRoles " + i, m.explicitRoles(i), x.explicitRoles(i));
            CHECK.due(at + "effectiveRoles " + i, m.effectiveRoles(i), x.effectiveRoles(i));
            CHECK.due(at + "juniorsOf " + i, m.juniorsOf(i), x.juniorsOf(i));
            for (int perm = -1; perm <= 16; perm++) {
                CHECK.due(at + "hasPermission " + i + " " + perm, m.hasPermission(i, perm), x.hasPermission(i, perm));
            }
        }
    }

    private static void compareAll(String at, AdminRoleAnalyser x, Model m) {
        compareGetters(at, x, m);
        for (int user = 0; user < m.users; user++) {
            CHECK.due(at + "reachableRoles " + user, m.reachableRoles(user), x.reachableRoles(user));
        }
    }

    private static int randomCond(int roles) {
        int positive = 1 << MIX.below(roles);
        int negative = (1 << MIX.below(roles) | 1 << MIX.below(roles)) & ~positive;
        return Check.cond(positive, negative);
    }

    /** A step of a Gray code whose places are the roles, turned round: it makes plans long. */
    private static int counterCond(int place, int turn, int roles) {
        int positive = 0;
        int negative = 0;
        for (int lesser = 0; lesser < place; lesser++) {
            int bit = 1 << (lesser + turn) % roles;
            positive |= lesser == place - 1 ? bit : 0;
            negative |= lesser == place - 1 ? 0 : bit;
        }
        return Check.cond(positive, negative);
    }

    /** Full rule lists, a Gray code with faults in it among them, so that long plans are common. */
    private static void plannedRun(int run) {
        int roles = run % 40 == 0 ? 8 : 4 + MIX.below(3);
        AdminRoleAnalyser x = new AdminRoleAnalyser(3, roles, 16);
        Model m = new Model(3, roles, 16);
        m.setAssigned(0, 0, true);
        x.setAssigned(0, 0, true);
        m.setAssigned(2, 1, true);
        x.setAssigned(2, 1, true);
        for (int edge = 0; edge < 2; edge++) {
            int senior = MIX.below(roles);
            int junior = MIX.below(roles);
            m.addInheritance(senior, junior);
            x.addInheritance(senior, junior);
        }
        int turn = MIX.below(roles);
        int skip = MIX.below(4 * roles);
        for (int rule = 0; rule < 16; rule++) {
            int kind = 1 + MIX.below(2);
            int admin = MIX.below(run % 2 == 0 ? 2 : 3);
            int target = MIX.below(roles);
            int cond = randomCond(roles);
            int place = (rule * 7 + run) % 16;
            if (place / 2 < roles && place != skip) {
                kind = 1 + place % 2;
                target = (place / 2 + turn) % roles;
                cond = counterCond(place / 2, turn, roles);
            }
            m.addRule(kind, admin, target, cond);
            x.addRule(kind, admin, target, cond);
        }
        for (int role = 0; role < roles; role++) {
            String at = "planned run " + run + " role " + role + ": ";
            CHECK.due(at + "analyse", m.analyse(1, role), x.analyse(1, role));
            compareWitness(at, x, m);
        }
        replay("planned run " + run + ": ", x, MIX.below(roles));
    }

    private static void replay(String at, AdminRoleAnalyser x, int role) {
        if (x.analyse(1, role) != AdminRoleAnalyser.REACHABLE) {
            return;
        }
        int steps = x.witnessLength();
        for (int k = 0; k < steps; k++) {
            CHECK.due(at + "held before step " + k, 0, x.effectiveRoles(1) >> role & 1);
            CHECK.due(at + "step " + k, 0, x.act(x.witnessAdmin(k), 1, x.witnessRule(k)));
        }
        CHECK.due(at + "held at the end", 1, x.effectiveRoles(1) >> role & 1);
    }
}
