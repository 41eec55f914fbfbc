/** Promise 9: witnessLength. */
final class Promise09WitnessLengthTest {
    private static final Check CHECK = new Check();

    public static void main(String[] args) {
        AdminRoleAnalyser x = new AdminRoleAnalyser(2, 4, 4);
        CHECK.due("at the start", -1, x.witnessLength());
        CHECK.due("refused analyse", -1, x.analyse(2, 0));
        CHECK.due("after a refused first analyse", -1, x.witnessLength());
        x.setAssigned(0, 0, true);
        x.addRule(1, 0, 1, 0);
        x.addRule(1, 0, 2, Check.cond(2, 0));
        CHECK.due("analyse(1, 2)", 1, x.analyse(1, 2));
        CHECK.due("two steps", 2, x.witnessLength());
        CHECK.due("refused analyse", -1, x.analyse(1, 4));
        CHECK.due("after a refused analyse", 2, x.witnessLength());
        x.reachableRoles(0);
        x.reachableRoles(1);
        CHECK.due("after reachableRoles", 2, x.witnessLength());
        CHECK.due("analyse(0, 0)", 1, x.analyse(0, 0));
        CHECK.due("no step", 0, x.witnessLength());
        CHECK.due("refused analyse", -1, x.analyse(-1, 0));
        CHECK.due("after a refused analyse", 0, x.witnessLength());
        CHECK.due("analyse(1, 3)", 2, x.analyse(1, 3));
        CHECK.due("out of reach", -1, x.witnessLength());
        CHECK.due("analyse(1, 1)", 1, x.analyse(1, 1));
        CHECK.due("one step", 1, x.witnessLength());
        stays(x);
        CHECK.end();
    }

    private static void stays(AdminRoleAnalyser x) {
        String before = Check.witness(x);
        x.addInheritance(3, 1);
        CHECK.same("after addInheritance", before, Check.witness(x));
        x.removeInheritance(3, 1);
        CHECK.same("after removeInheritance", before, Check.witness(x));
        x.grantPermission(1, 1, true);
        CHECK.same("after grantPermission", before, Check.witness(x));
        x.addRule(2, 0, 1, 0);
        CHECK.same("after addRule", before, Check.witness(x));
        x.act(0, 1, 0);
        CHECK.same("after act", before, Check.witness(x));
        x.setAssigned(0, 0, false);
        CHECK.same("after setAssigned", before, Check.witness(x));
        x.reachableRoles(1);
        CHECK.same("after reachableRoles", before, Check.witness(x));
    }
}
