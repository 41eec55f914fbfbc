/** Promise 8, sentence by sentence: refusals, plans of no step and of very many, no plan at all. */
final class Boundary08AnalyseTest {
    private static final Check CHECK = new Check();
    private static final int REACHABLE = 1;
    private static final int UNREACHABLE = 2;

    public static void main(String[] args) {
        outside();
        refusedKeepsTheWitness();
        zeroWhenHeld();
        neverAbove255();
        unreachableStoresNone();
        staysUntilTheNext();
        changesNoOtherState();
        replayAnswersOk();
        noneIsShorter();
        unreachableExactly();
        CHECK.end();
    }

    private static void analyse(AdminRoleAnalyser x, int user, int role, int due) {
        CHECK.due("analyse(" + user + ", " + role + ")", due, x.analyse(user, role));
    }

    private static void outside() {
        CHECK.sentence("If user is outside 0..U-1 or role is outside 0..R-1, the answer is `ERR_RANGE`");
        for (int users = 1; users <= 8; users++) {
            int roles = Math.max(2, 9 - users);
            AdminRoleAnalyser x = Sample.of(users, roles, 16);
            for (int far : Edges.outside(users)) {
                for (int role = 0; role < roles; role++) {
                    analyse(x, far, role, Check.RANGE);
                }
                for (int other : Edges.nearest(roles)) {
                    analyse(x, far, other, Check.RANGE);
                }
            }
            for (int far : Edges.outside(roles)) {
                for (int user = 0; user < users; user++) {
                    analyse(x, user, far, Check.RANGE);
                }
            }
        }
    }

    /** An object whose stored witness has this length. */
    private static AdminRoleAnalyser storing(int length) {
        AdminRoleAnalyser x = Sample.longestPlans();
        if (length == 0) {
            x.setAssigned(1, 5, true);
            x.analyse(1, 5);
        } else if (length > 0) {
            x.analyse(1, Integer.numberOfTrailingZeros(length));
        }
        CHECK.due("length stored", length, x.witnessLength());
        return x;
    }

    private static void refusedKeepsTheWitness() {
        CHECK.sentence("the answer is `ERR_RANGE` and nothing changes, the stored witness included");
        int[] lengths = {-1, 0, 1, 2, 128};
        for (int length : lengths) {
            AdminRoleAnalyser x = storing(length);
            String before = Check.witness(x);
            for (int far : Edges.outside(8)) {
                analyse(x, far, 0, Check.RANGE);
                analyse(x, 1, far, Check.RANGE);
                analyse(x, far, far, Check.RANGE);
                CHECK.same("witness", before, Check.witness(x));
            }
            CHECK.unchanged(() -> storing(length), x);
        }
    }

    private static void zeroWhenHeld() {
        CHECK.sentence("Its length L is at least 0; it is 0 exactly when role is already in effective(user).");
        AdminRoleAnalyser x = new AdminRoleAnalyser(2, 8, 16);
        x.addInheritance(7, 6);
        x.addInheritance(6, 5);
        x.addInheritance(3, 2);
        x.setAssigned(0, 0, true);
        x.addRule(2, 0, 1, 0);
        x.addRule(1, 0, 5, 0);
        x.addRule(1, 0, 7, Check.cond(32, 2));
        for (int mask = 0; mask < 256; mask++) {
            Probe.assign(x, 1, mask);
            for (int role = 0; role < 8; role++) {
                boolean held = (x.effectiveRoles(1) >> role & 1) == 1;
                int answer = x.analyse(1, role);
                String at = "set " + mask + " role " + role + ": ";
                if (held) {
                    CHECK.due(at + "analyse", REACHABLE, answer);
                }
                CHECK.due(at + "length is 0", held, x.witnessLength() == 0);
                CHECK.due(at + "length is 0 or more", answer == REACHABLE, x.witnessLength() >= 0);
            }
        }
    }

    private static void neverAbove255() {
        CHECK.sentence("L never exceeds 255.");
        // Before the last step the role is not held, so 128 sets can be passed and no more.
        AdminRoleAnalyser x = Sample.longestPlans();
        for (int mask = 0; mask < 256; mask++) {
            Probe.assign(x, 1, mask);
            for (int role = 0; role < 8; role++) {
                analyse(x, 1, role, REACHABLE);
                CHECK.due("length " + x.witnessLength() + " is 128 at the most", true, x.witnessLength() <= 128);
            }
        }
        Probe.assign(x, 1, 0);
        analyse(x, 1, 7, REACHABLE);
        CHECK.due("witnessLength()", 128, x.witnessLength());
        for (int k = 0; k < 128; k++) {
            // In a Gray code, step k moves the place of the lowest bit of k + 1.
            int role = Integer.numberOfTrailingZeros(k + 1);
            boolean held = (k + 1 >> role + 1 & 1) == 1;
            CHECK.due("witnessRule(" + k + ")", 2 * role + (held ? 1 : 0), x.witnessRule(k));
            CHECK.due("witnessAdmin(" + k + ")", 0, x.witnessAdmin(k));
        }
    }

    private static void unreachableStoresNone() {
        CHECK.sentence("The stored witness length becomes -1.");
        int[] lengths = {-1, 0, 1, 128};
        for (int length : lengths) {
            AdminRoleAnalyser x = storing(length);
            analyse(x, 0, 1, UNREACHABLE);
            CHECK.due("witnessLength()", -1, x.witnessLength());
            for (int k = -1; k <= 256; k++) {
                CHECK.due("witnessRule(" + k + ")", -1, x.witnessRule(k));
                CHECK.due("witnessAdmin(" + k + ")", -1, x.witnessAdmin(k));
            }
            analyse(x, 0, 1, UNREACHABLE);
            CHECK.due("witnessLength() again", -1, x.witnessLength());
        }
    }

    private static void staysUntilTheNext() {
        CHECK.sentence("The stored witness stays as stored until the next analyse that is not refused, whatever"
            + " other calls happen in between.");
        AdminRoleAnalyser x = Sample.of(3, 5, 6);
        String before = Check.witness(x);
        CHECK.same("the stored witness", "w2 -1@-1 1@0 0@0 -1@-1 -1@-1", before);
        for (int round = 0; round < 2; round++) {
            for (int i = -1; i <= 5; i++) {
                for (int j = -1; j <= 5; j++) {
                    touch(x, i, j, round == 0);
                    CHECK.same("after calls with " + i + " and " + j, before, Check.witness(x));
                }
            }
        }
        analyse(x, 3, 0, Check.RANGE);
        CHECK.same("after a refused analyse", before, Check.witness(x));
        x.setAssigned(0, 0, true);
        analyse(x, 0, 0, REACHABLE);
        CHECK.same("after the next", "w0 -1@-1 -1@-1 -1@-1", Check.witness(x));
    }

    private static void touch(AdminRoleAnalyser x, int i, int j, boolean on) {
        x.addInheritance(i, j);
        x.removeInheritance(j, i);
        x.grantPermission(i, j, on);
        x.addRule(1, i, j, 0);
        x.setAssigned(i, j, on);
        x.act(i, j, 0);
        x.act(j, i, 1);
        x.reachableRoles(i);
        x.hasPermission(i, j);
    }

    private static void changesNoOtherState() {
        CHECK.sentence("analyse changes no other state.");
        for (int users = 1; users <= 8; users++) {
            AdminRoleAnalyser x = Sample.notAnalysed(users, 8, 16);
            for (int user = 0; user < users; user++) {
                for (int role = 0; role < 8; role++) {
                    x.analyse(user, role);
                }
            }
            CHECK.sameBut("witness", Probe.of(Sample.notAnalysed(users, 8, 16)), Probe.of(x));
        }
    }

    /** Small worlds of all kinds: which one is told by the number alone. */
    private static AdminRoleAnalyser world(int number) {
        AdminRoleAnalyser x = new AdminRoleAnalyser(3, 5, 16);
        Mix pick = new Mix(number);
        for (int i = 0; i < 3; i++) {
            x.addInheritance(pick.below(5), pick.below(5));
            x.setAssigned(i, pick.below(3), true);
        }
        for (int rule = 0; rule < 16; rule++) {
            int pos = 1 << pick.below(5) | 1 << pick.below(5);
            int neg = 1 << pick.below(5) & ~pos;
            boolean free = pick.below(8) == 0;
            x.addRule(1 + pick.below(2), pick.below(3), pick.below(5), free ? 0 : Check.cond(pos, neg));
        }
        return x;
    }

    private static void replayAnswersOk() {
        CHECK.sentence("Each of them answers `OK`, and afterwards bit role of `effectiveRoles(user)` is set.");
        for (int number = 0; number < 300; number++) {
            for (int i = 0; i < 15; i++) {
                replay(world(number), i / 5, i % 5);
            }
        }
        for (int role = 0; role < 8; role++) {
            replay(Sample.longestPlans(), 1, role);
        }
    }

    private static void replay(AdminRoleAnalyser x, int user, int role) {
        if (x.analyse(user, role) != REACHABLE) {
            return;
        }
        int length = x.witnessLength();
        for (int k = 0; k < length; k++) {
            CHECK.due("step " + k, Check.OK, x.act(x.witnessAdmin(k), user, x.witnessRule(k)));
        }
        CHECK.due("role " + role + " at the end", 1, x.effectiveRoles(user) >> role & 1);
    }

    private static void noneIsShorter() {
        CHECK.sentence("No sequence of fewer than L `OK`-answering act calls whose user argument is user, started"
            + " from that state, ends with role in effectiveRoles(user).");
        for (int number = 0; number < 300; number++) {
            AdminRoleAnalyser x = world(number);
            for (int user = 0; user < 3; user++) {
                lengthsAreLeast("world " + number, x, user, 5);
            }
        }
        AdminRoleAnalyser x = Sample.longestPlans();
        for (int mask = 0; mask < 256; mask += 17) {
            Probe.assign(x, 1, mask);
            lengthsAreLeast("the Gray code from " + mask, x, 1, 8);
        }
    }

    private static void lengthsAreLeast(String where, AdminRoleAnalyser x, int user, int roles) {
        Walk walk = new Walk(x, user);
        for (int role = 0; role < roles; role++) {
            x.analyse(user, role);
            String length = "the length in " + where + " for " + user + " and " + role;
            CHECK.due(length, walk.callsTo(role), x.witnessLength());
        }
    }

    private static void unreachableExactly() {
        CHECK.sentence("The answer is `UNREACHABLE` exactly when no finite sequence of `OK`-answering act calls"
            + " whose user argument is user (with any admins), started from that state, ends with bit role set"
            + " in effectiveRoles(user).");
        int missed = 0;
        for (int number = 0; number < 300; number++) {
            AdminRoleAnalyser x = world(number);
            for (int user = 0; user < 3; user++) {
                Walk walk = new Walk(x, user);
                for (int role = 0; role < 5; role++) {
                    analyse(x, user, role, walk.callsTo(role) == -1 ? UNREACHABLE : REACHABLE);
                    missed += walk.callsTo(role) == -1 ? 1 : 0;
                }
            }
        }
        CHECK.due("of 4500 questions, some have no plan " + missed, true, missed > 300 && missed < 4200);
    }
}
