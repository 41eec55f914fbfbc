import java.lang.reflect.Constructor;
import java.lang.reflect.Field;
import java.lang.reflect.Method;
import java.lang.reflect.Modifier;
import java.util.Arrays;
import java.util.Set;
import java.util.TreeSet;

/** The public face is the document's, and every other member is private. */
final class FaceTest {
    private static final Check CHECK = new Check();

    private static final Set<String> FACE = Set.of(
        "int addInheritance[int, int]", "int removeInheritance[int, int]",
        "int grantPermission[int, int, boolean]", "int addRule[int, int, int, int]",
        "int setAssigned[int, int, boolean]", "int act[int, int, int]", "int analyse[int, int]",
        "int witnessLength[]", "int witnessRule[int]", "int witnessAdmin[int]",
        "int reachableRoles[int]", "int explicitRoles[int]", "int effectiveRoles[int]",
        "int juniorsOf[int]", "boolean hasPermission[int, int]");

    private static final Set<String> CONSTANTS = Set.of(
        "OK=0", "ERR_RANGE=-1", "ERR_FULL=-2", "ERR_SAME=-3", "ERR_CYCLE=-4", "ERR_SELF=-5",
        "ERR_DENIED=-6", "ERR_PRECOND=-7", "REACHABLE=1", "UNREACHABLE=2", "ASSIGN=1", "REVOKE=2",
        "PERMISSIONS=16");

    public static void main(String[] args) throws IllegalAccessException {
        Class<?> type = AdminRoleAnalyser.class;
        CHECK.due("the class is public and final", Modifier.PUBLIC | Modifier.FINAL, type.getModifiers());
        CHECK.due("nested classes", 0, type.getDeclaredClasses().length);
        methods(type);
        constructors(type);
        fields(type);
        CHECK.end();
    }

    private static void methods(Class<?> type) {
        Set<String> open = new TreeSet<>();
        Set<String> openNames = new TreeSet<>();
        for (Method method : type.getDeclaredMethods()) {
            if (!Modifier.isPrivate(method.getModifiers())) {
                CHECK.due(method + " is public alone", Modifier.PUBLIC, method.getModifiers());
                open.add(method.getReturnType() + " " + method.getName() + names(method.getParameterTypes()));
                openNames.add(method.getName());
            }
        }
        CHECK.same("the public methods", new TreeSet<>(FACE).toString(), open.toString());
        for (Method method : type.getDeclaredMethods()) {
            boolean hidden = Modifier.isPrivate(method.getModifiers());
            CHECK.due(method + " bears a public name", false, hidden && openNames.contains(method.getName()));
        }
    }

    private static void constructors(Class<?> type) {
        Constructor<?>[] all = type.getDeclaredConstructors();
        CHECK.due("constructors", 1, all.length);
        CHECK.due("the constructor is public", Modifier.PUBLIC, all[0].getModifiers());
        CHECK.same("the constructor's parameters", "[int, int, int]", names(all[0].getParameterTypes()));
    }

    private static void fields(Class<?> type) throws IllegalAccessException {
        Set<String> constants = new TreeSet<>();
        for (Field field : type.getDeclaredFields()) {
            int modifiers = field.getModifiers();
            if (!Modifier.isPrivate(modifiers)) {
                CHECK.due(field + " is a public constant",
                    Modifier.PUBLIC | Modifier.STATIC | Modifier.FINAL, modifiers);
                CHECK.due(field + " is an int", true, field.getType() == int.class);
                constants.add(field.getName() + "=" + field.get(null));
            }
        }
        CHECK.same("the public constants", new TreeSet<>(CONSTANTS).toString(), constants.toString());
    }

    private static String names(Class<?>[] types) {
        return Arrays.stream(types).map(Class::getName).toList().toString();
    }
}
