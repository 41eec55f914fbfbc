import java.util.Map;

/** Promise 5, sentence by sentence: the full list, every wrong argument, and the answered index. */
final class Boundary05AddRuleTest {
    private static final Check CHECK = new Check();
    private static final int[] LOW_CONDS = {0, 1, 2, 0x100, 0x200, 0x201, 0x102};

    public static void main(String[] args) {
        full();
        wrongKind();
        wrongRole();
        bitsAbove();
        wrongMasks();
        sharedRoles();
        allConds();
        order();
        index();
        selfMention();
        onlyTheListGrows();
        CHECK.end();
    }

    private static void add(AdminRoleAnalyser x, int kind, int admin, int target, int cond, int due) {
        CHECK.due("addRule(" + kind + ", " + admin + ", " + target + ", " + cond + ")", due,
            x.addRule(kind, admin, target, cond));
    }

    private static AdminRoleAnalyser filled(int rules) {
        AdminRoleAnalyser x = new AdminRoleAnalyser(2, 4, rules);
        for (int i = 0; i < rules; i++) {
            x.addRule(1 + i % 2, i % 4, i % 3, Check.cond(i % 3, 8));
        }
        return x;
    }

    private static void full() {
        CHECK.sentence("count == C -> `ERR_FULL`, whatever the other arguments are");
        for (int rules : Edges.from(1, 16)) {
            AdminRoleAnalyser x = filled(rules);
            for (int any : Edges.ints()) {
                add(x, any, 0, 0, 0, Check.FULL);
                add(x, 1, any, 0, 0, Check.FULL);
                add(x, 2, 0, any, 0, Check.FULL);
                add(x, 1, 0, 0, any, Check.FULL);
                add(x, any, any, any, any, Check.FULL);
            }
            add(x, 1, 0, 0, Check.cond(1, 1), Check.FULL);
            add(x, 1, 0, 0, Check.cond(16, 0), Check.FULL);
            CHECK.unchanged(() -> filled(rules), x);
        }
    }

    private static void wrongKind() {
        CHECK.sentence("kind is neither `ASSIGN` nor `REVOKE`");
        AdminRoleAnalyser x = Sample.of(3, 4, 6);
        for (int kind : Edges.those(i -> i != 1 && i != 2)) {
            add(x, kind, 0, 1, 0, Check.RANGE);
        }
        CHECK.unchanged(() -> Sample.of(3, 4, 6), x);
        add(Sample.of(3, 4, 6), 1, 0, 1, 0, 5);
        add(Sample.of(3, 4, 6), 2, 0, 1, 0, 5);
    }

    private static void wrongRole() {
        CHECK.sentence("adminRole or target is outside 0..R-1");
        for (int roles : Edges.from(2, 8)) {
            AdminRoleAnalyser x = Sample.of(3, roles, 6);
            for (int far : Edges.outside(roles)) {
                for (int role = 0; role < roles; role++) {
                    add(x, 1, far, role, 0, Check.RANGE);
                    add(x, 2, role, far, 0, Check.RANGE);
                }
                for (int other : Edges.nearest(roles)) {
                    add(x, 1, far, other, 0, Check.RANGE);
                    add(x, 2, other, far, 0, Check.RANGE);
                }
            }
            CHECK.unchanged(() -> Sample.of(3, roles, 6), x);
            for (int role = 0; role < roles; role++) {
                add(Sample.of(3, roles, 6), 1, role, 0, 0, 5);
                add(Sample.of(3, roles, 6), 2, 0, role, 0, 5);
            }
        }
    }

    private static void bitsAbove() {
        CHECK.sentence("(cond >>> 16) != 0, which holds for every negative cond and every cond with a bit set"
            + " at position 16 or above");
        AdminRoleAnalyser x = Sample.of(3, 8, 6);
        for (int cond : Edges.those(i -> i < 0 || i > 0xffff)) {
            add(x, 1, 0, 1, cond, Check.RANGE);
        }
        for (int low : LOW_CONDS) {
            for (int bit = 16; bit < 32; bit++) {
                add(x, 1, 0, 1, low | 1 << bit, Check.RANGE);
                add(x, 1, 0, 1, low | -1 << bit, Check.RANGE);
            }
            add(Sample.of(3, 8, 6), 1, 0, 1, low, 5);
        }
        CHECK.unchanged(() -> Sample.of(3, 8, 6), x);
    }

    private static void wrongMasks() {
        CHECK.sentence("pos or neg is not a valid role mask");
        for (int roles = 2; roles <= 8; roles++) {
            int known = (1 << roles) - 1;
            for (int mask = 0; mask < 256; mask++) {
                int due = (mask & ~known) == 0 ? 0 : Check.RANGE;
                add(new AdminRoleAnalyser(1, roles, 1), 1, 0, 1, Check.cond(mask, 0), due);
                add(new AdminRoleAnalyser(1, roles, 1), 2, 1, 0, Check.cond(0, mask), due);
            }
        }
    }

    private static void sharedRoles() {
        CHECK.sentence("(pos & neg) != 0");
        AdminRoleAnalyser x = new AdminRoleAnalyser(1, 8, 1);
        for (int role = 0; role < 8; role++) {
            int bit = 1 << role;
            add(x, 1, 0, 1, Check.cond(bit, bit), Check.RANGE);
            add(x, 1, 0, 1, Check.cond(255, bit), Check.RANGE);
            add(x, 2, 0, 1, Check.cond(bit, 255), Check.RANGE);
            add(new AdminRoleAnalyser(1, 8, 1), 2, 0, 1, Check.cond(bit, 255 & ~bit), 0);
            add(new AdminRoleAnalyser(1, 8, 1), 1, 0, 1, Check.cond(255 & ~bit, bit), 0);
        }
        add(x, 1, 0, 1, 0xffff, Check.RANGE);
        add(x, 1, 0, 1, 255, 0);
    }

    private static void allConds() {
        CHECK.sentence("Both masks are valid role masks and pos & neg == 0.");
        for (int roles = 2; roles <= 8; roles += 3) {
            AdminRoleAnalyser x = new AdminRoleAnalyser(1, roles, 16);
            int count = 0;
            for (int cond = 0; cond < 1 << 17; cond++) {
                int pos = cond % 256;
                int neg = cond / 256;
                boolean fits = pos < 1 << roles && neg < 1 << roles && (pos & neg) == 0;
                add(x, 1, 0, 1, cond, fits ? count : Check.RANGE);
                count += fits ? 1 : 0;
                if (count == 16) {
                    x = new AdminRoleAnalyser(1, roles, 16);
                    count = 0;
                }
            }
        }
    }

    private static void order() {
        CHECK.sentence("Promise 5: The conditions, in order");
        AdminRoleAnalyser x = new AdminRoleAnalyser(2, 2, 1);
        add(x, 0, 2, 2, -1, Check.RANGE);
        add(x, 2, 1, 1, 0, 0);
        add(x, 0, 2, 2, -1, Check.FULL);
        add(x, 2, 1, 1, 0, Check.FULL);
    }

    private static void index() {
        CHECK.sentence("It lies in 0..C-1, so the first rule's answer is 0, which equals `OK` numerically.");
        for (int rules = 1; rules <= 16; rules++) {
            AdminRoleAnalyser x = new AdminRoleAnalyser(2, 3, rules);
            for (int count = 0; count < rules; count++) {
                add(x, 3, 0, 0, 0, Check.RANGE);
                add(x, 1, 3, 0, 0, Check.RANGE);
                add(x, 2, 0, 0, -1, Check.RANGE);
                CHECK.due("rules there", count, Probe.ruleCount(x));
                add(x, 1 + count % 2, count % 3, (count + 1) % 3, 0, count);
                CHECK.due("rules there", count + 1, Probe.ruleCount(x));
            }
            add(x, 1, 0, 0, 0, Check.FULL);
        }
    }

    private static void selfMention() {
        CHECK.sentence("adminRole may equal target, and pos or neg may mention target or adminRole.");
        for (int admin = 0; admin < 8; admin++) {
            for (int target = 0; target < 8; target++) {
                AdminRoleAnalyser x = new AdminRoleAnalyser(2, 8, 4);
                int both = 1 << admin | 1 << target;
                add(x, 1, admin, target, Check.cond(both, 0), 0);
                add(x, 2, admin, target, Check.cond(0, both), 1);
                add(x, 2, admin, target, Check.cond(both, 255 & ~both), 2);
                add(x, 1, admin, target, Check.cond(255 & ~both, both), 3);
            }
        }
    }

    private static void onlyTheListGrows() {
        CHECK.sentence("Only the rule list grows.");
        Map<String, String> before = Probe.of(Sample.of(4, 8, 9));
        int kept = before.get("rules").lastIndexOf(']') + 1;
        for (int i = 0; i < 64; i++) {
            AdminRoleAnalyser x = Sample.of(4, 8, 9);
            add(x, 1 + i % 2, i / 8, i % 8, Check.cond(i, 128), 8);
            Map<String, String> after = Probe.of(x);
            CHECK.sameBut("rules", before, after);
            CHECK.same("earlier rules", before.get("rules").substring(0, kept),
                after.get("rules").substring(0, kept));
        }
    }
}
