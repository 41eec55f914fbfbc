import java.util.LinkedHashMap;
import java.util.Map;

/**
 * All of an object's state, by the names of its parts: witness, edges, grants, explicit, rules.
 * But for the witness they are read from the answers of calls that change the state, so the
 * object is used up.
 */
final class Probe {
    static Map<String, String> of(AdminRoleAnalyser x) {
        Map<String, String> parts = new LinkedHashMap<>();
        parts.put("witness", Check.witness(x));
        parts.putAll(withoutWitness(x));
        return parts;
    }

    /** For an object that is to meet no getter, as only such a one tells what getters change. */
    static Map<String, String> withoutWitness(AdminRoleAnalyser x) {
        Map<String, String> parts = new LinkedHashMap<>();
        parts.put("edges", edges(x));
        parts.put("grants", grants(x));
        parts.put("explicit", explicit(x));
        parts.put("rules", rules(x));
        return parts;
    }

    /** Users, roles and rule capacity; the room for rules is filled by it. */
    static String sizes(AdminRoleAnalyser x) {
        int users = 0;
        int roles = 0;
        for (int i = -5; i <= 40; i++) {
            users += x.explicitRoles(i) == -1 ? 0 : 1;
            roles += x.juniorsOf(i) == -1 ? 0 : 1;
        }
        return users + " " + roles + " " + capacity(x);
    }

    /** How many rules there are: acting on oneself is refused as such only with a rule that is there. */
    static int ruleCount(AdminRoleAnalyser x) {
        int rules = 0;
        for (int i = -5; i <= 40; i++) {
            rules += x.act(0, 0, i) == Check.SELF ? 1 : 0;
        }
        return rules;
    }

    static void assign(AdminRoleAnalyser x, int user, int mask) {
        for (int role = 0; role < 8; role++) {
            x.setAssigned(user, role, (mask >> role & 1) == 1);
        }
    }

    private static int capacity(AdminRoleAnalyser x) {
        int capacity = ruleCount(x);
        while (capacity < 40 && x.addRule(1, 0, 0, 0) != Check.FULL) {
            capacity++;
        }
        return capacity;
    }

    private static String edges(AdminRoleAnalyser x) {
        StringBuilder all = new StringBuilder();
        for (int senior = 0; senior < 8; senior++) {
            for (int junior = 0; junior < 8; junior++) {
                if (x.removeInheritance(senior, junior) == Check.OK) {
                    all.append(' ').append(senior).append('>').append(junior);
                }
            }
        }
        return all.toString();
    }

    private static String grants(AdminRoleAnalyser x) {
        StringBuilder all = new StringBuilder();
        for (int role = 0; role < 8; role++) {
            for (int perm = 0; perm < 16; perm++) {
                if (x.grantPermission(role, perm, false) == Check.OK) {
                    all.append(' ').append(role).append(':').append(perm);
                }
            }
        }
        return all.toString();
    }

    private static String explicit(AdminRoleAnalyser x) {
        StringBuilder all = new StringBuilder();
        for (int user = 0; user < 8; user++) {
            all.append(' ').append(take(x, user));
        }
        return all.toString();
    }

    /** The user's explicit set, which is empty afterwards; -1 if there is no such user. */
    private static int take(AdminRoleAnalyser x, int user) {
        int mask = 0;
        for (int role = 0; role < 8; role++) {
            int answer = x.setAssigned(user, role, false);
            if (answer == Check.RANGE && role == 0) {
                return -1;
            }
            mask |= answer == Check.OK ? 1 << role : 0;
        }
        return mask;
    }

    private static String rules(AdminRoleAnalyser x) {
        StringBuilder all = new StringBuilder();
        int count = ruleCount(x);
        for (int rule = 0; rule < count; rule++) {
            all.append(" [").append(rule).append(parts(x, rule)).append(']');
        }
        return all.append(' ').append(count).append(" of ").append(capacity(x)).toString();
    }

    /** What the rule answers for each admin role and, where that one may, to each role set. */
    private static String parts(AdminRoleAnalyser x, int rule) {
        StringBuilder all = new StringBuilder();
        for (int role = 0; role < 8; role++) {
            x.setAssigned(0, role, true);
            int answer = x.act(0, 1, rule);
            take(x, 1);
            if (answer != Check.DENIED && answer != Check.RANGE) {
                all.append(" admin ").append(role).append(':').append(answers(x, rule));
            }
            x.setAssigned(0, role, false);
        }
        return all.toString();
    }

    private static String answers(AdminRoleAnalyser x, int rule) {
        StringBuilder all = new StringBuilder();
        for (int mask = 0; mask < 256; mask++) {
            assign(x, 1, mask);
            int answer = x.act(0, 1, rule);
            int left = take(x, 1);
            all.append(answer == Check.OK ? "+" + left + "+" : answer);
        }
        return all.toString();
    }
}
