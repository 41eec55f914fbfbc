/** Promise 5: addRule. */
final class Promise05AddRuleTest {
    private static final Check CHECK = new Check();

    public static void main(String[] args) {
        selfMention();
        masksAreKeptApart();
        CHECK.end();
    }

    private static void selfMention() {
        AdminRoleAnalyser x = new AdminRoleAnalyser(2, 3, 4);
        CHECK.due("admin role as target", 0, x.addRule(1, 0, 0, 0));
        CHECK.due("pos has the target", 1, x.addRule(2, 0, 1, Check.cond(3, 0)));
        CHECK.due("neg has both", 2, x.addRule(1, 0, 1, Check.cond(0, 3)));
        x.setAssigned(0, 0, true);
        CHECK.due("rule 2", 0, x.act(0, 1, 2));
        CHECK.due("rule 1 lacks role 0", -7, x.act(0, 1, 1));
        CHECK.due("rule 0", 0, x.act(0, 1, 0));
        CHECK.due("rule 1", 0, x.act(0, 1, 1));
        CHECK.due("explicit", 1, x.explicitRoles(1));
    }

    /** Each rule keeps its own parts: rule r assigns role r under pos r - 1 and neg r + 1. */
    private static void masksAreKeptApart() {
        AdminRoleAnalyser x = new AdminRoleAnalyser(2, 8, 16);
        for (int role = 1; role < 7; role++) {
            x.addRule(1, role, role, Check.cond(1 << (role - 1), 1 << (role + 1)));
        }
        for (int role = 1; role < 7; role++) {
            int rule = role - 1;
            CHECK.due("no admin role", -6, x.act(0, 1, rule));
            x.setAssigned(0, role, true);
            CHECK.due("pos is missing", -7, x.act(0, 1, rule));
            x.setAssigned(1, role - 1, true);
            x.setAssigned(1, role + 1, true);
            CHECK.due("neg is there", -7, x.act(0, 1, rule));
            x.setAssigned(1, role + 1, false);
            CHECK.due("both are met", 0, x.act(0, 1, rule));
            CHECK.due("explicit", 3 << (role - 1), x.explicitRoles(1));
            x.setAssigned(1, role, false);
            x.setAssigned(1, role - 1, false);
            x.setAssigned(0, role, false);
        }
    }
}
