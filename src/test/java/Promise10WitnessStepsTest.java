/** Promise 10: witnessRule and witnessAdmin. */
final class Promise10WitnessStepsTest {
    private static final Check CHECK = new Check();

    public static void main(String[] args) {
        leastAdminOfEachStep();
        adminByInheritance();
        storedValuesStay();
        shorterAfterLonger();
        CHECK.end();
    }

    private static AdminRoleAnalyser threeSteps() {
        AdminRoleAnalyser x = new AdminRoleAnalyser(4, 6, 16);
        x.addRule(1, 0, 5, 4 + 8 + 16);
        x.addRule(1, 1, 3, 4);
        x.addRule(1, 0, 2, 0);
        x.addInheritance(3, 4);
        x.setAssigned(3, 0, true);
        x.setAssigned(2, 0, true);
        x.setAssigned(3, 1, true);
        CHECK.due("analyse(0, 5)", 1, x.analyse(0, 5));
        return x;
    }

    private static void leastAdminOfEachStep() {
        AdminRoleAnalyser x = threeSteps();
        CHECK.same("witness", "w3 -1@-1 2@2 1@3 0@2 -1@-1 -1@-1", Check.witness(x));
    }

    private static void adminByInheritance() {
        AdminRoleAnalyser x = new AdminRoleAnalyser(4, 4, 1);
        x.addRule(1, 0, 1, 0);
        x.setAssigned(2, 0, true);
        x.setAssigned(1, 3, true);
        CHECK.due("analyse", 1, x.analyse(3, 1));
        CHECK.due("witnessAdmin(0)", 2, x.witnessAdmin(0));
        x.addInheritance(3, 0);
        CHECK.due("as stored", 2, x.witnessAdmin(0));
        CHECK.due("analyse", 1, x.analyse(3, 1));
        CHECK.due("witnessAdmin(0)", 1, x.witnessAdmin(0));
    }

    private static void storedValuesStay() {
        AdminRoleAnalyser x = threeSteps();
        String before = Check.witness(x);
        x.setAssigned(2, 0, false);
        x.setAssigned(3, 0, false);
        x.setAssigned(1, 0, true);
        x.addRule(1, 0, 5, 0);
        x.removeInheritance(3, 4);
        x.setAssigned(0, 5, true);
        CHECK.same("after changes", before, Check.witness(x));
        for (int user = -1; user <= 4; user++) {
            x.reachableRoles(user);
        }
        x.analyse(4, 0);
        x.analyse(0, 6);
        CHECK.same("after reachableRoles and refused analyses", before, Check.witness(x));
    }

    private static void shorterAfterLonger() {
        AdminRoleAnalyser x = threeSteps();
        CHECK.due("analyse(0, 2)", 1, x.analyse(0, 2));
        CHECK.same("one step", "w1 -1@-1 2@2 -1@-1 -1@-1", Check.witness(x));
    }
}
