/** Promise 8: analyse. */
final class Promise08AnalyseTest {
    private static final Check CHECK = new Check();

    public static void main(String[] args) {
        shortestBeatsLesser();
        leastAmongShortest();
        leastAcrossGoals();
        revokeOpensTheWay();
        reachedThroughASenior();
        roleHeldByInheritanceMayBeAssigned();
        userIsNotHisOwnAdmin();
        adminsStayFixed();
        changesNothingElse();
        CHECK.end();
    }

    private static String plan(AdminRoleAnalyser x) {
        StringBuilder all = new StringBuilder().append(x.witnessLength()).append(':');
        for (int k = 0; k < x.witnessLength(); k++) {
            all.append(' ').append(x.witnessRule(k));
        }
        return all.toString();
    }

    private static AdminRoleAnalyser withAdmin(int roles) {
        AdminRoleAnalyser x = new AdminRoleAnalyser(2, roles, 16);
        x.setAssigned(0, 0, true);
        return x;
    }

    private static void shortestBeatsLesser() {
        AdminRoleAnalyser x = withAdmin(4);
        x.addRule(1, 0, 1, 0);
        x.addRule(1, 0, 2, Check.cond(2, 0));
        x.addRule(1, 0, 3, Check.cond(4, 0));
        x.addRule(1, 0, 2, 0);
        CHECK.due("analyse", 1, x.analyse(1, 3));
        CHECK.same("plan", "2: 3 2", plan(x));
    }

    private static void leastAmongShortest() {
        AdminRoleAnalyser x = withAdmin(5);
        x.addRule(1, 0, 4, Check.cond(8, 0));
        x.addRule(1, 0, 4, Check.cond(12, 0));
        x.addRule(1, 0, 3, 0);
        x.addRule(1, 0, 3, 0);
        x.addRule(1, 0, 2, 0);
        CHECK.due("analyse", 1, x.analyse(1, 4));
        CHECK.same("plan", "2: 2 0", plan(x));
        AdminRoleAnalyser y = withAdmin(5);
        y.addRule(1, 0, 3, 0);
        y.addRule(1, 0, 2, 0);
        y.addRule(1, 0, 1, 0);
        y.addRule(1, 0, 4, Check.cond(2 + 4 + 8, 0));
        CHECK.due("any order would do", 1, y.analyse(1, 4));
        CHECK.same("plan", "4: 0 1 2 3", plan(y));
    }

    /** Two end sets hold the role: the plan with the lesser first rule counts, not the lesser last one. */
    private static void leastAcrossGoals() {
        AdminRoleAnalyser x = withAdmin(5);
        x.addRule(1, 0, 4, Check.cond(4, 0));
        x.addRule(1, 0, 1, 0);
        x.addRule(1, 0, 2, 0);
        x.addRule(1, 0, 3, Check.cond(2, 0));
        x.addInheritance(3, 4);
        CHECK.due("analyse", 1, x.analyse(1, 4));
        CHECK.same("plan", "2: 1 3", plan(x));
    }

    private static void revokeOpensTheWay() {
        AdminRoleAnalyser x = withAdmin(4);
        x.addRule(1, 0, 2, Check.cond(0, 8));
        x.addInheritance(1, 3);
        x.setAssigned(1, 1, true);
        CHECK.due("neg is held by inheritance", 2, x.analyse(1, 2));
        x.addRule(2, 0, 3, 0);
        CHECK.due("3 is not assigned", 2, x.analyse(1, 2));
        x.addRule(2, 0, 1, 0);
        CHECK.due("analyse", 1, x.analyse(1, 2));
        CHECK.same("plan", "2: 2 0", plan(x));
    }

    private static void reachedThroughASenior() {
        AdminRoleAnalyser x = withAdmin(4);
        x.addInheritance(3, 2);
        x.addInheritance(2, 1);
        x.addRule(1, 0, 3, 0);
        CHECK.due("analyse", 1, x.analyse(1, 1));
        CHECK.same("plan", "1: 0", plan(x));
    }

    private static void roleHeldByInheritanceMayBeAssigned() {
        AdminRoleAnalyser x = withAdmin(5);
        x.addInheritance(3, 2);
        x.setAssigned(1, 3, true);
        x.addRule(2, 0, 3, 0);
        x.addRule(1, 0, 4, Check.cond(4, 8));
        x.addRule(1, 0, 2, 0);
        CHECK.due("in either order", 1, x.analyse(1, 4));
        CHECK.same("plan", "3: 0 2 1", plan(x));
        AdminRoleAnalyser y = withAdmin(5);
        y.addInheritance(3, 2);
        y.setAssigned(1, 3, true);
        y.addRule(2, 0, 3, 0);
        y.addRule(1, 0, 4, Check.cond(4, 8));
        y.addRule(1, 0, 2, Check.cond(8, 0));
        CHECK.due("only while 3 is held", 1, y.analyse(1, 4));
        CHECK.same("plan", "3: 2 0 1", plan(y));
    }

    private static void userIsNotHisOwnAdmin() {
        AdminRoleAnalyser x = withAdmin(3);
        x.addRule(1, 0, 1, 0);
        x.addRule(1, 1, 2, 0);
        CHECK.due("the only admin", 2, x.analyse(0, 1));
        CHECK.due("the other user", 1, x.analyse(1, 1));
        CHECK.due("no one holds admin role 1", 2, x.analyse(1, 2));
        AdminRoleAnalyser alone = new AdminRoleAnalyser(1, 2, 2);
        alone.setAssigned(0, 0, true);
        alone.addRule(1, 0, 1, 0);
        CHECK.due("a single user", 2, alone.analyse(0, 1));
        CHECK.due("what he holds", 1, alone.analyse(0, 0));
        AdminRoleAnalyser full = new AdminRoleAnalyser(8, 8, 16);
        full.addRule(1, 0, 1, 0);
        CHECK.due("eight users, none of them an admin", 2, full.analyse(7, 1));
        full.setAssigned(7, 0, true);
        CHECK.due("the last is the admin", 2, full.analyse(7, 1));
        CHECK.due("of all others", 1, full.analyse(0, 1));
        CHECK.due("witnessAdmin(0)", 7, full.witnessAdmin(0));
    }

    /** User 1 could make user 0 an admin, but a plan for user 1 touches user 1 alone. */
    private static void adminsStayFixed() {
        AdminRoleAnalyser x = new AdminRoleAnalyser(2, 4, 4);
        x.setAssigned(1, 1, true);
        x.addRule(1, 1, 0, 0);
        x.addRule(1, 0, 2, 0);
        CHECK.due("user 0 can become an admin", 1, x.analyse(0, 0));
        CHECK.due("but is none now", 2, x.analyse(1, 2));
        CHECK.due("make him one", 0, x.act(1, 0, 0));
        CHECK.due("now", 1, x.analyse(1, 2));
    }

    private static void changesNothingElse() {
        AdminRoleAnalyser x = withAdmin(4);
        x.addInheritance(2, 1);
        x.grantPermission(1, 1, true);
        x.addRule(1, 0, 2, 0);
        x.addRule(2, 0, 2, 0);
        x.analyse(1, 2);
        String before = Check.state(x);
        CHECK.due("another question", 2, x.analyse(0, 3));
        CHECK.due("the first again", 1, x.analyse(1, 2));
        CHECK.same("state", before, Check.state(x));
        CHECK.due("next rule", 2, x.addRule(1, 0, 2, 0));
    }
}
