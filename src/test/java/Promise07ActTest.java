/** Promise 7: act. */
final class Promise07ActTest {
    private static final Check CHECK = new Check();

    public static void main(String[] args) {
        orderOfRefusals();
        assignAndRevoke();
        preconditionsAreEffective();
        adminRoleIsEffective();
        nothingElseChanges();
        CHECK.end();
    }

    private static void orderOfRefusals() {
        AdminRoleAnalyser x = new AdminRoleAnalyser(2, 4, 4);
        x.addRule(1, 0, 1, Check.cond(4, 8));
        x.setAssigned(1, 1, true);
        CHECK.due("self before denied", -5, x.act(1, 1, 0));
        CHECK.due("denied before precondition", -6, x.act(0, 1, 0));
        x.setAssigned(0, 0, true);
        CHECK.due("precondition before same", -7, x.act(0, 1, 0));
        CHECK.due("self, though he may", -5, x.act(0, 0, 0));
        x.setAssigned(1, 2, true);
        CHECK.due("same", -3, x.act(0, 1, 0));
        x.setAssigned(1, 3, true);
        CHECK.due("neg before same", -7, x.act(0, 1, 0));
        CHECK.due("explicit is as it was", 2 + 4 + 8, x.explicitRoles(1));
        x.setAssigned(1, 3, false);
        x.setAssigned(1, 1, false);
        CHECK.due("at last", 0, x.act(0, 1, 0));
        CHECK.due("explicit", 6, x.explicitRoles(1));
    }

    private static void assignAndRevoke() {
        AdminRoleAnalyser x = new AdminRoleAnalyser(2, 3, 4);
        x.setAssigned(0, 0, true);
        x.setAssigned(1, 0, true);
        x.addRule(1, 0, 2, 0);
        x.addRule(2, 0, 2, 0);
        x.addRule(2, 0, 0, 0);
        CHECK.due("revoke what is not there", -3, x.act(0, 1, 1));
        CHECK.due("assign", 0, x.act(0, 1, 0));
        CHECK.due("explicit", 5, x.explicitRoles(1));
        CHECK.due("assign again", -3, x.act(0, 1, 0));
        CHECK.due("revoke", 0, x.act(0, 1, 1));
        CHECK.due("explicit", 1, x.explicitRoles(1));
        CHECK.due("revoke again", -3, x.act(0, 1, 1));
        CHECK.due("an admin is revoked", 0, x.act(1, 0, 2));
        CHECK.due("explicit of user 0", 0, x.explicitRoles(0));
        CHECK.due("and may do no more", -6, x.act(0, 1, 0));
    }

    private static void preconditionsAreEffective() {
        AdminRoleAnalyser x = new AdminRoleAnalyser(2, 5, 4);
        x.setAssigned(0, 0, true);
        x.addInheritance(3, 2);
        x.setAssigned(1, 3, true);
        x.addRule(1, 0, 1, Check.cond(4, 0));
        x.addRule(1, 0, 4, Check.cond(0, 4));
        CHECK.due("neg is held by inheritance", -7, x.act(0, 1, 1));
        CHECK.due("pos is held by inheritance", 0, x.act(0, 1, 0));
        x.removeInheritance(3, 2);
        x.setAssigned(1, 1, false);
        CHECK.due("pos is no longer held", -7, x.act(0, 1, 0));
        CHECK.due("nor is neg", 0, x.act(0, 1, 1));
        CHECK.due("explicit", 8 + 16, x.explicitRoles(1));
    }

    private static void adminRoleIsEffective() {
        AdminRoleAnalyser x = new AdminRoleAnalyser(3, 3, 1);
        x.addRule(1, 0, 2, 0);
        x.setAssigned(0, 1, true);
        x.setAssigned(2, 0, true);
        CHECK.due("another holds it", -6, x.act(0, 1, 0));
        x.addInheritance(1, 0);
        CHECK.due("held by inheritance", 0, x.act(0, 1, 0));
        x.removeInheritance(1, 0);
        CHECK.due("lost with the edge", -6, x.act(0, 2, 0));
    }

    private static void nothingElseChanges() {
        AdminRoleAnalyser x = new AdminRoleAnalyser(4, 4, 2);
        x.setAssigned(0, 0, true);
        x.setAssigned(2, 3, true);
        x.grantPermission(1, 4, true);
        x.addRule(1, 0, 1, 0);
        x.analyse(3, 1);
        String witness = Check.witness(x);
        CHECK.due("act", 0, x.act(0, 1, 0));
        CHECK.due("user 0", 1, x.explicitRoles(0));
        CHECK.due("user 1", 2, x.explicitRoles(1));
        CHECK.due("user 2", 8, x.explicitRoles(2));
        CHECK.due("user 3", 0, x.explicitRoles(3));
        CHECK.due("effective", 2, x.effectiveRoles(1));
        CHECK.due("permission follows", 1 << 4, Check.permissions(x, 1));
        CHECK.due("no other's", 0, Check.permissions(x, 0) | Check.permissions(x, 2) | Check.permissions(x, 3));
        CHECK.same("witness", witness, Check.witness(x));
        CHECK.due("next rule", 1, x.addRule(1, 0, 1, 0));
    }
}
