/** Promise 5: addRule. */
final class Promise05AddRuleTest {
    private static final Check CHECK = new Check();

    public static void main(String[] args) {
        wrongArguments();
        masksOfFewRoles();
        masksOfAllRoles();
        fullDecidesFirst();
        selfMention();
        masksAreKeptApart();
        nothingElseChanges();
        CHECK.end();
    }

    private static void wrongArguments() {
        AdminRoleAnalyser x = new AdminRoleAnalyser(2, 4, 3);
        String before = Check.state(x);
        int[] noKinds = {Integer.MIN_VALUE, -1, 0, 3, 4, Integer.MAX_VALUE};
        for (int kind : noKinds) {
            CHECK.due("kind " + kind, -1, x.addRule(kind, 0, 0, 0));
        }
        int[] noRoles = {Integer.MIN_VALUE, -1, 4, 7, 8, 32, Integer.MAX_VALUE};
        for (int role : noRoles) {
            CHECK.due("adminRole " + role, -1, x.addRule(1, role, 0, 0));
            CHECK.due("target " + role, -1, x.addRule(2, 0, role, 0));
        }
        int[] noConds = {Integer.MIN_VALUE, -1, -256, 1 << 16, 1 << 24, 1 << 30, 0x10001, Integer.MAX_VALUE};
        for (int cond : noConds) {
            CHECK.due("cond " + cond, -1, x.addRule(1, 0, 0, cond));
        }
        CHECK.same("state after refusals", before, Check.state(x));
        CHECK.due("first rule", 0, x.addRule(1, 3, 3, 0));
        CHECK.due("refused between", -1, x.addRule(3, 3, 3, 0));
        CHECK.due("second rule", 1, x.addRule(2, 0, 0, 0));
    }

    private static void masksOfFewRoles() {
        AdminRoleAnalyser x = new AdminRoleAnalyser(2, 4, 16);
        CHECK.due("pos 16", -1, x.addRule(1, 0, 0, Check.cond(16, 0)));
        CHECK.due("pos 128", -1, x.addRule(1, 0, 0, Check.cond(128, 0)));
        CHECK.due("pos 17", -1, x.addRule(1, 0, 0, Check.cond(17, 0)));
        CHECK.due("neg 16", -1, x.addRule(1, 0, 0, Check.cond(0, 16)));
        CHECK.due("neg 128", -1, x.addRule(1, 0, 0, Check.cond(0, 128)));
        CHECK.due("pos 15", 0, x.addRule(1, 0, 0, Check.cond(15, 0)));
        CHECK.due("neg 15", 1, x.addRule(1, 0, 0, Check.cond(0, 15)));
        CHECK.due("pos 5, neg 10", 2, x.addRule(1, 0, 0, Check.cond(5, 10)));
        for (int role = 0; role < 4; role++) {
            CHECK.due("both " + role, -1, x.addRule(1, 0, 0, Check.cond(1 << role, 1 << role)));
        }
        CHECK.due("pos 7, neg 12", -1, x.addRule(1, 0, 0, Check.cond(7, 12)));
        CHECK.due("the next", 3, x.addRule(1, 0, 0, 0));
    }

    private static void masksOfAllRoles() {
        AdminRoleAnalyser x = new AdminRoleAnalyser(2, 8, 16);
        CHECK.due("pos 255", 0, x.addRule(1, 7, 7, 255));
        CHECK.due("neg 255", 1, x.addRule(2, 7, 7, 255 << 8));
        CHECK.due("pos 170, neg 85", 2, x.addRule(2, 7, 7, Check.cond(170, 85)));
        CHECK.due("all bits", -1, x.addRule(2, 7, 7, 0xffff));
        CHECK.due("bit 16", -1, x.addRule(2, 7, 7, 0x10000));
    }

    private static void fullDecidesFirst() {
        for (int capacity = 1; capacity <= 16; capacity++) {
            AdminRoleAnalyser x = new AdminRoleAnalyser(2, 4, capacity);
            for (int i = 0; i < capacity; i++) {
                CHECK.due("refused before full", -1, x.addRule(0, 0, 0, 0));
                CHECK.due("rule " + i + " of " + capacity, i, x.addRule(1 + i % 2, i % 4, i % 3, 0));
            }
            String before = Check.state(x);
            CHECK.due("full", -2, x.addRule(1, 0, 0, 0));
            CHECK.due("full, kind 0", -2, x.addRule(0, 0, 0, 0));
            CHECK.due("full, no role", -2, x.addRule(1, -1, 9, 0));
            CHECK.due("full, no cond", -2, x.addRule(1, 0, 0, -1));
            CHECK.same("state after refusals", before, Check.state(x));
        }
    }

    private static void selfMention() {
        AdminRoleAnalyser x = new AdminRoleAnalyser(2, 3, 4);
        CHECK.due("admin role as target", 0, x.addRule(1, 0, 0, 0));
        CHECK.due("pos has the target", 1, x.addRule(2, 0, 1, Check.cond(3, 0)));
        CHECK.due("neg has both", 2, x.addRule(1, 0, 1, Check.cond(0, 3)));
        x.setAssigned(0, 0, true);
        CHECK.due("rule 2", 0, x.act(0, 1, 2));
        CHECK.due("rule 1 lacks role 0", -7, x.act(0, 1, 1));
        CHECK.due("rule 0", 0, x.act(0, 1, 0));
        CHECK.due("rule 1", 0, x.act(0, 1, 1));
        CHECK.due("explicit", 1, x.explicitRoles(1));
    }

    /** Each rule keeps its own parts: rule r assigns role r under pos r - 1 and neg r + 1. */
    private static void masksAreKeptApart() {
        AdminRoleAnalyser x = new AdminRoleAnalyser(2, 8, 16);
        for (int role = 1; role < 7; role++) {
            x.addRule(1, role, role, Check.cond(1 << (role - 1), 1 << (role + 1)));
        }
        for (int role = 1; role < 7; role++) {
            int rule = role - 1;
            CHECK.due("no admin role", -6, x.act(0, 1, rule));
            x.setAssigned(0, role, true);
            CHECK.due("pos is missing", -7, x.act(0, 1, rule));
            x.setAssigned(1, role - 1, true);
            x.setAssigned(1, role + 1, true);
            CHECK.due("neg is there", -7, x.act(0, 1, rule));
            x.setAssigned(1, role + 1, false);
            CHECK.due("both are met", 0, x.act(0, 1, rule));
            CHECK.due("explicit", 3 << (role - 1), x.explicitRoles(1));
            x.setAssigned(1, role, false);
            x.setAssigned(1, role - 1, false);
            x.setAssigned(0, role, false);
        }
    }

    private static void nothingElseChanges() {
        AdminRoleAnalyser x = new AdminRoleAnalyser(2, 4, 4);
        x.addInheritance(0, 3);
        x.setAssigned(0, 0, true);
        x.grantPermission(3, 1, true);
        x.addRule(1, 0, 1, 0);
        x.analyse(1, 1);
        String before = Check.state(x);
        CHECK.due("a rule that adds no reach", 1, x.addRule(2, 0, 1, 0));
        CHECK.same("state", before, Check.state(x));
    }
}
