/** Promise 1: an object has the sizes that it was made with, and a state of its own. */
final class Promise01ConstructionTest {
    private static final Check CHECK = new Check();

    public static void main(String[] args) {
        CHECK.same("sizes", "3 4 5", Probe.sizes(new AdminRoleAnalyser(3, 4, 5)));
        CHECK.same("sizes", "5 3 11", Probe.sizes(new AdminRoleAnalyser(5, 3, 11)));
        objectsAreApart();
        CHECK.end();
    }

    private static void objectsAreApart() {
        AdminRoleAnalyser one = new AdminRoleAnalyser(2, 3, 2);
        AdminRoleAnalyser other = new AdminRoleAnalyser(2, 3, 2);
        one.addInheritance(0, 1);
        one.grantPermission(1, 2, true);
        one.setAssigned(0, 0, true);
        one.addRule(1, 0, 2, 0);
        CHECK.due("analyse on one", 1, one.analyse(1, 2));
        CHECK.unchanged(() -> new AdminRoleAnalyser(2, 3, 2), other);
    }
}
