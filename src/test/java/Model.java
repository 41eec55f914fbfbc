import java.util.ArrayList;
import java.util.HashMap;
import java.util.List;
import java.util.Map;
import java.util.Set;
import java.util.TreeSet;

/**
 * The document's terms told again with sets, for comparison. The witness is found another way
 * than in the program: the distance of every set from the goal is settled first, and then the
 * plan is read off from its first step, taking the least rule that brings the goal nearer.
 */
final class Model {
    record Edge(int senior, int junior) { }

    record Grant(int role, int perm) { }

    record Rule(int kind, int admin, int target, Set<Integer> pos, Set<Integer> neg) { }

    final int users;
    final int roles;
    final int capacity;
    private final List<Edge> edges = new ArrayList<>();
    private final List<Grant> grants = new ArrayList<>();
    private final List<Rule> rules = new ArrayList<>();
    private final List<Set<Integer>> explicit = new ArrayList<>();
    private List<Integer> planRules = List.of();
    private List<Integer> planAdmins = List.of();
    private int length = -1;

    Model(int users, int roles, int rules) {
        this.users = Math.max(1, Math.min(8, users));
        this.roles = Math.max(2, Math.min(8, roles));
        this.capacity = Math.max(1, Math.min(16, rules));
        for (int user = 0; user < this.users; user++) {
            explicit.add(new TreeSet<>());
        }
    }

    int addInheritance(int senior, int junior) {
        if (noRole(senior) || noRole(junior)) {
            return -1;
        }
        if (senior == junior) {
            return -4;
        }
        if (edges.contains(new Edge(senior, junior))) {
            return -3;
        }
        if (eff(Set.of(junior)).contains(senior)) {
            return -4;
        }
        edges.add(new Edge(senior, junior));
        return 0;
    }

    int removeInheritance(int senior, int junior) {
        if (noRole(senior) || noRole(junior)) {
            return -1;
        }
        return edges.remove(new Edge(senior, junior)) ? 0 : -3;
    }

    int grantPermission(int role, int perm, boolean on) {
        if (noRole(role) || perm < 0 || perm > 15) {
            return -1;
        }
        Grant grant = new Grant(role, perm);
        if (grants.contains(grant) == on) {
            return -3;
        }
        boolean done = on ? grants.add(grant) : grants.remove(grant);
        return done ? 0 : -99;
    }

    int addRule(int kind, int adminRole, int target, int cond) {
        if (rules.size() == capacity) {
            return -2;
        }
        if (kind < 1 || kind > 2 || noRole(adminRole) || noRole(target) || cond < 0 || cond > 65535) {
            return -1;
        }
        Set<Integer> pos = setOf(cond % 256);
        Set<Integer> neg = setOf(cond / 256);
        for (int role : pos) {
            if (neg.contains(role)) {
                return -1;
            }
        }
        for (int role = roles; role < 8; role++) {
            if (pos.contains(role) || neg.contains(role)) {
                return -1;
            }
        }
        rules.add(new Rule(kind, adminRole, target, pos, neg));
        return rules.size() - 1;
    }

    int setAssigned(int user, int role, boolean on) {
        if (noUser(user) || noRole(role)) {
            return -1;
        }
        boolean done = on ? explicit.get(user).add(role) : explicit.get(user).remove(role);
        return done ? 0 : -3;
    }

    int act(int admin, int user, int rule) {
        if (noUser(admin) || noUser(user) || rule < 0 || rule >= rules.size()) {
            return -1;
        }
        if (admin == user) {
            return -5;
        }
        Rule chosen = rules.get(rule);
        if (!eff(explicit.get(admin)).contains(chosen.admin())) {
            return -6;
        }
        if (!preconditionsHold(chosen, explicit.get(user))) {
            return -7;
        }
        return setAssigned(user, chosen.target(), chosen.kind() == 1);
    }

    int analyse(int user, int role) {
        if (noUser(user) || noRole(role)) {
            return -1;
        }
        Map<Set<Integer>, Integer> away = distancesTo(user, role);
        Set<Integer> at = explicit.get(user);
        planRules = new ArrayList<>();
        planAdmins = new ArrayList<>();
        length = away.getOrDefault(at, -1);
        if (length < 0) {
            return 2;
        }
        for (int left = length; left > 0; left--) {
            int rule = leastNearer(user, at, away, left - 1);
            planRules.add(rule);
            planAdmins.add(adminFor(user, rules.get(rule)));
            at = step(user, rules.get(rule), at);
        }
        return 1;
    }

    int witnessLength() {
        return length;
    }

    int witnessRule(int k) {
        return k >= 0 && k < planRules.size() ? planRules.get(k) : -1;
    }

    int witnessAdmin(int k) {
        return k >= 0 && k < planAdmins.size() ? planAdmins.get(k) : -1;
    }

    int reachableRoles(int user) {
        if (noUser(user)) {
            return -1;
        }
        int mask = 0;
        for (int role = 0; role < roles; role++) {
            if (distancesTo(user, role).containsKey(explicit.get(user))) {
                mask += 1 << role;
            }
        }
        return mask;
    }

    int explicitRoles(int user) {
        return noUser(user) ? -1 : maskOf(explicit.get(user));
    }

    int effectiveRoles(int user) {
        return noUser(user) ? -1 : maskOf(eff(explicit.get(user)));
    }

    int juniorsOf(int role) {
        return noRole(role) ? -1 : maskOf(eff(Set.of(role)));
    }

    boolean hasPermission(int user, int perm) {
        if (noUser(user)) {
            return false;
        }
        Set<Integer> held = eff(explicit.get(user));
        return grants.stream().anyMatch(g -> g.perm() == perm && held.contains(g.role()));
    }

    private boolean noUser(int user) {
        return user < 0 || user >= users;
    }

    private boolean noRole(int role) {
        return role < 0 || role >= roles;
    }

    private Set<Integer> eff(Set<Integer> set) {
        Set<Integer> all = new TreeSet<>(set);
        boolean grown = true;
        while (grown) {
            grown = false;
            for (Edge edge : edges) {
                grown |= all.contains(edge.senior()) && all.add(edge.junior());
            }
        }
        return all;
    }

    private boolean preconditionsHold(Rule rule, Set<Integer> set) {
        Set<Integer> held = eff(set);
        return held.containsAll(rule.pos()) && rule.neg().stream().noneMatch(held::contains);
    }

    private int adminFor(int user, Rule rule) {
        for (int admin = 0; admin < users; admin++) {
            if (admin != user && eff(explicit.get(admin)).contains(rule.admin())) {
                return admin;
            }
        }
        return -1;
    }

    /** The set that the rule makes of this one, or this one itself where it may not be applied. */
    private Set<Integer> step(int user, Rule rule, Set<Integer> set) {
        if (adminFor(user, rule) < 0 || !preconditionsHold(rule, set)) {
            return set;
        }
        Set<Integer> result = new TreeSet<>(set);
        if (rule.kind() == 1) {
            result.add(rule.target());
        } else {
            result.remove(rule.target());
        }
        return result;
    }

    private Map<Set<Integer>, Integer> distancesTo(int user, int role) {
        Map<Set<Integer>, Integer> away = new HashMap<>();
        for (int mask = 0; mask < 1 << roles; mask++) {
            if (eff(setOf(mask)).contains(role)) {
                away.put(setOf(mask), 0);
            }
        }
        List<Rule> usable = rules.stream().filter(r -> adminFor(user, r) >= 0).toList();
        boolean grown = true;
        for (int round = 1; grown; round++) {
            grown = false;
            for (int mask = 0; mask < 1 << roles; mask++) {
                Set<Integer> set = setOf(mask);
                if (!away.containsKey(set) && anyAt(user, usable, set, away, round - 1)) {
                    away.put(set, round);
                    grown = true;
                }
            }
        }
        return away;
    }

    private boolean anyAt(int user, List<Rule> usable, Set<Integer> set,
            Map<Set<Integer>, Integer> away, int distance) {
        return usable.stream().anyMatch(r -> away.getOrDefault(step(user, r, set), -1) == distance);
    }

    private int leastNearer(int user, Set<Integer> set, Map<Set<Integer>, Integer> away, int distance) {
        for (int rule = 0; rule < rules.size(); rule++) {
            if (away.getOrDefault(step(user, rules.get(rule), set), -1) == distance) {
                return rule;
            }
        }
        return -1;
    }

    private static Set<Integer> setOf(int mask) {
        Set<Integer> set = new TreeSet<>();
        for (int role = 0; role < 8; role++) {
            if ((mask >> role) % 2 == 1) {
                set.add(role);
            }
        }
        return set;
    }

    private static int maskOf(Set<Integer> set) {
        return set.stream().mapToInt(role -> 1 << role).sum();
    }
}
