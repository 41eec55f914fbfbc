import java.io.IOException;
import java.lang.reflect.Field;
import java.lang.reflect.Method;
import java.lang.reflect.Modifier;
import java.nio.file.Files;
import java.nio.file.Path;

/** README.md names the whole public face, and its example answers what it says. */
final class ReadmeTest {
    private static final Check CHECK = new Check();
    private static String readme = "";

    public static void main(String[] args) throws IOException, IllegalAccessException {
        readme = Files.readString(Path.of("README.md"));
        namesTheFace();
        example();
        CHECK.end();
    }

    private static void namesTheFace() throws IllegalAccessException {
        for (Method method : AdminRoleAnalyser.class.getDeclaredMethods()) {
            if (Modifier.isPublic(method.getModifiers())) {
                stands("| `" + method.getName() + "(");
            }
        }
        for (Field field : AdminRoleAnalyser.class.getFields()) {
            String name = "`" + field.getName() + "`";
            String value = String.valueOf(field.get(null));
            boolean told = readme.contains(name + " | " + value + " |") || readme.contains(name + " (" + value + ")");
            CHECK.due("README.md tells the value of " + name, true, told);
        }
    }

    private static void stands(String text) {
        CHECK.due("README.md has " + text, true, readme.contains(text));
    }

    private static void line(String call, int want, int got) {
        stands(call);
        CHECK.due(call, want, got);
    }

    private static void example() {
        stands("AdminRoleAnalyser x = new AdminRoleAnalyser(2, 4, 8);");
        AdminRoleAnalyser x = new AdminRoleAnalyser(2, 4, 8);
        line("x.setAssigned(0, 0, true);", 0, x.setAssigned(0, 0, true));
        line("x.addInheritance(3, 2);", 0, x.addInheritance(3, 2));
        line("x.grantPermission(2, 7, true);", 0, x.grantPermission(2, 7, true));
        line("x.addRule(AdminRoleAnalyser.ASSIGN, 0, 1, 0);", 0, x.addRule(AdminRoleAnalyser.ASSIGN, 0, 1, 0));
        line("x.addRule(AdminRoleAnalyser.ASSIGN, 0, 3, 1 << 1);", 1,
            x.addRule(AdminRoleAnalyser.ASSIGN, 0, 3, 1 << 1));
        line("x.reachableRoles(1);", 14, x.reachableRoles(1));
        line("if (x.analyse(1, 2) == AdminRoleAnalyser.REACHABLE) {", 1, x.analyse(1, 2));
        CHECK.same("by rules 0 and 1", "w2 -1@-1 0@0 1@0 -1@-1 -1@-1", Check.witness(x));
        stands("for (int k = 0; k < x.witnessLength(); k++) {");
        for (int k = 0; k < x.witnessLength(); k++) {
            line("x.act(x.witnessAdmin(k), 1, x.witnessRule(k));", 0,
                x.act(x.witnessAdmin(k), 1, x.witnessRule(k)));
        }
        line("x.hasPermission(1, 7);", 1, x.hasPermission(1, 7) ? 1 : 0);
    }
}
