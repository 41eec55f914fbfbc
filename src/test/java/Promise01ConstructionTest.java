/** Promise 1: the arguments are clamped and the object starts empty. */
final class Promise01ConstructionTest {
    private static final Check CHECK = new Check();
    private static final int MIN = Integer.MIN_VALUE;
    private static final int MAX = Integer.MAX_VALUE;

    public static void main(String[] args) {
        for (int value = -3; value <= 20; value++) {
            sizes(value, value, value);
            sizes(value, 5, 3);
            sizes(4, value, 3);
            sizes(4, 5, value);
        }
        sizes(MIN, MIN, MIN);
        sizes(MAX, MAX, MAX);
        sizes(MIN, MAX, 16);
        sizes(MAX, MIN, 17);
        startsEmpty(new AdminRoleAnalyser(8, 8, 16), 8, 8);
        startsEmpty(new AdminRoleAnalyser(1, 2, 1), 1, 2);
        startsEmpty(new AdminRoleAnalyser(MIN, MIN, MIN), 1, 2);
        objectsAreApart();
        CHECK.end();
    }

    private static void sizes(int users, int roles, int rules) {
        String made = "new(" + users + ", " + roles + ", " + rules + ") ";
        AdminRoleAnalyser x = new AdminRoleAnalyser(users, roles, rules);
        int dueUsers = Math.max(1, Math.min(8, users));
        int dueRoles = Math.max(2, Math.min(8, roles));
        int dueRules = Math.max(1, Math.min(16, rules));
        for (int i = -2; i <= 20; i++) {
            CHECK.due(made + "explicitRoles " + i, i >= 0 && i < dueUsers ? 0 : -1, x.explicitRoles(i));
            CHECK.due(made + "juniorsOf " + i, i >= 0 && i < dueRoles ? 1 << i : -1, x.juniorsOf(i));
        }
        for (int i = 0; i < 20; i++) {
            int due = i < dueRules ? i : -2;
            CHECK.due(made + "addRule " + i, due, x.addRule(1, 0, 1, 0));
        }
        CHECK.due(made + "last user", 0, x.setAssigned(dueUsers - 1, dueRoles - 1, true));
        CHECK.due(made + "user too far", -1, x.setAssigned(dueUsers, 0, true));
        CHECK.due(made + "role too far", -1, x.setAssigned(0, dueRoles, true));
    }

    private static void startsEmpty(AdminRoleAnalyser x, int users, int roles) {
        CHECK.due("witnessLength at the start", -1, x.witnessLength());
        CHECK.due("witnessRule at the start", -1, x.witnessRule(0));
        CHECK.due("witnessAdmin at the start", -1, x.witnessAdmin(0));
        for (int user = 0; user < users; user++) {
            CHECK.due("explicitRoles at the start", 0, x.explicitRoles(user));
            CHECK.due("effectiveRoles at the start", 0, x.effectiveRoles(user));
            CHECK.due("reachableRoles at the start", 0, x.reachableRoles(user));
            CHECK.due("act without a rule", -1, x.act(user, (user + 1) % users, 0));
        }
        for (int role = 0; role < roles; role++) {
            CHECK.due("removeInheritance at the start", -3, x.removeInheritance(role, (role + 1) % roles));
            for (int perm = 0; perm < 16; perm++) {
                CHECK.due("no role holds a permission", -3, x.grantPermission(role, perm, false));
            }
        }
        CHECK.due("first rule", 0, x.addRule(1, 0, 0, 0));
    }

    private static void objectsAreApart() {
        AdminRoleAnalyser one = new AdminRoleAnalyser(2, 3, 2);
        AdminRoleAnalyser other = new AdminRoleAnalyser(2, 3, 2);
        String before = Check.state(other);
        one.addInheritance(0, 1);
        one.grantPermission(1, 2, true);
        one.setAssigned(0, 0, true);
        one.addRule(1, 0, 2, 0);
        CHECK.due("analyse on one", 1, one.analyse(1, 2));
        CHECK.same("the other object", before, Check.state(other));
    }
}
