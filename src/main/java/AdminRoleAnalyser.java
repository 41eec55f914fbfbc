/**
 * Users, an acyclic role hierarchy, permissions and administrative rules, with the answer to
 * the safety question: can a user come to hold a role through rules applied to that user?
 *
 * Every role set is an int mask in which bit r stands for role r.
 */
public final class AdminRoleAnalyser {
    public static final int OK = 0;
    public static final int ERR_RANGE = -1;
    public static final int ERR_FULL = -2;
    public static final int ERR_SAME = -3;
    public static final int ERR_CYCLE = -4;
    public static final int ERR_SELF = -5;
    public static final int ERR_DENIED = -6;
    public static final int ERR_PRECOND = -7;
    public static final int REACHABLE = 1;
    public static final int UNREACHABLE = 2;
    public static final int ASSIGN = 1;
    public static final int REVOKE = 2;
    public static final int PERMISSIONS = 16;

    private static final int MAX_USERS = 8;
    private static final int MIN_ROLES = 2;
    private static final int MAX_ROLES = 8;
    private static final int MAX_RULES = 16;
    private static final int MAX_SETS = 256;
    private static final int MASK_BITS = 8;
    private static final int LOW_MASK = 255;
    private static final int NONE = -1;

    private final int userCount;
    private final int roleCount;
    private final int ruleCapacity;

    private final int[] directJuniors = new int[MAX_ROLES];
    // Kept beside the edges because every question about a user needs it, while edges seldom change.
    private final int[] closures = new int[MAX_ROLES];
    private final int[] rolePermissions = new int[MAX_ROLES];
    private final int[] assigned = new int[MAX_USERS];

    private final int[] ruleKinds = new int[MAX_RULES];
    private final int[] ruleAdminRoles = new int[MAX_RULES];
    private final int[] ruleTargets = new int[MAX_RULES];
    private final int[] rulePositives = new int[MAX_RULES];
    private final int[] ruleNegatives = new int[MAX_RULES];
    private int ruleCount = 0;

    private final int[] witnessRules = new int[MAX_SETS];
    private final int[] witnessAdmins = new int[MAX_SETS];
    private int storedLength = NONE;

    // Working room of the search. Each search fills it anew, so nothing in it outlives a call.
    private final int[] leastAdmins = new int[MAX_RULES];
    private final int[] distances = new int[MAX_SETS];
    private final int[] previousSets = new int[MAX_SETS];
    private final int[] arrivalRules = new int[MAX_SETS];
    private final int[] foundSets = new int[MAX_SETS];
    private int foundCount = 0;

    public AdminRoleAnalyser(int users, int roles, int rules) {
        userCount = clamp(users, 1, MAX_USERS);
        roleCount = clamp(roles, MIN_ROLES, MAX_ROLES);
        ruleCapacity = clamp(rules, 1, MAX_RULES);
        rebuildClosures();
    }

    public int addInheritance(int senior, int junior) {
        if (!isRole(senior) || !isRole(junior)) {
            return ERR_RANGE;
        }
        if (senior == junior) {
            return ERR_CYCLE;
        }
        if (contains(directJuniors[senior], junior)) {
            return ERR_SAME;
        }
        if (contains(closures[junior], senior)) {
            return ERR_CYCLE;
        }
        directJuniors[senior] |= 1 << junior;
        rebuildClosures();
        return OK;
    }

    public int removeInheritance(int senior, int junior) {
        if (!isRole(senior) || !isRole(junior)) {
            return ERR_RANGE;
        }
        if (!contains(directJuniors[senior], junior)) {
            return ERR_SAME;
        }
        directJuniors[senior] &= ~(1 << junior);
        rebuildClosures();
        return OK;
    }

    public int grantPermission(int role, int perm, boolean on) {
        if (!isRole(role) || !isPermission(perm)) {
            return ERR_RANGE;
        }
        if (contains(rolePermissions[role], perm) == on) {
            return ERR_SAME;
        }
        rolePermissions[role] = changed(rolePermissions[role], perm, on);
        return OK;
    }

    public int addRule(int kind, int adminRole, int target, int cond) {
        if (ruleCount >= ruleCapacity) {
            return ERR_FULL;
        }
        if (kind != ASSIGN && kind != REVOKE) {
            return ERR_RANGE;
        }
        if (!isRole(adminRole) || !isRole(target) || !isCondition(cond)) {
            return ERR_RANGE;
        }
        int index = ruleCount;
        ruleKinds[index] = kind;
        ruleAdminRoles[index] = adminRole;
        ruleTargets[index] = target;
        rulePositives[index] = positivePart(cond);
        ruleNegatives[index] = negativePart(cond);
        ruleCount = index + 1;
        return index;
    }

    public int setAssigned(int user, int role, boolean on) {
        if (!isUser(user) || !isRole(role)) {
            return ERR_RANGE;
        }
        if (contains(assigned[user], role) == on) {
            return ERR_SAME;
        }
        assigned[user] = changed(assigned[user], role, on);
        return OK;
    }

    public int act(int admin, int user, int rule) {
        if (!isUser(admin) || !isUser(user) || !isRule(rule)) {
            return ERR_RANGE;
        }
        if (admin == user) {
            return ERR_SELF;
        }
        if (!mayAdminister(admin, rule)) {
            return ERR_DENIED;
        }
        int effective = expand(assigned[user]);
        if (!meetsPreconditions(rule, effective)) {
            return ERR_PRECOND;
        }
        if (!makesChange(rule, assigned[user])) {
            return ERR_SAME;
        }
        assigned[user] = resultOf(rule, assigned[user]);
        return OK;
    }

    public int analyse(int user, int role) {
        if (!isUser(user) || !isRole(role)) {
            return ERR_RANGE;
        }
        search(user);
        int goal = firstFoundWith(role);
        if (goal == NONE) {
            storedLength = NONE;
            return UNREACHABLE;
        }
        storeWitness(goal);
        return REACHABLE;
    }

    public int witnessLength() {
        return storedLength;
    }

    public int witnessRule(int k) {
        return isStep(k) ? witnessRules[k] : NONE;
    }

    public int witnessAdmin(int k) {
        return isStep(k) ? witnessAdmins[k] : NONE;
    }

    public int reachableRoles(int user) {
        if (!isUser(user)) {
            return NONE;
        }
        search(user);
        int reached = 0;
        for (int i = 0; i < foundCount; i++) {
            reached |= expand(foundSets[i]);
        }
        return reached;
    }

    public int explicitRoles(int user) {
        return isUser(user) ? assigned[user] : NONE;
    }

    public int effectiveRoles(int user) {
        return isUser(user) ? expand(assigned[user]) : NONE;
    }

    public int juniorsOf(int role) {
        return isRole(role) ? closures[role] : NONE;
    }

    public boolean hasPermission(int user, int perm) {
        if (!isUser(user) || !isPermission(perm)) {
            return false;
        }
        int effective = expand(assigned[user]);
        for (int role = 0; role < roleCount; role++) {
            if (contains(effective, role) && contains(rolePermissions[role], perm)) {
                return true;
            }
        }
        return false;
    }

    private static int clamp(int value, int least, int greatest) {
        if (value < least) {
            return least;
        }
        return value > greatest ? greatest : value;
    }

    private static boolean contains(int mask, int bit) {
        return (mask & (1 << bit)) != 0;
    }

    private static int changed(int mask, int bit, boolean on) {
        return on ? mask | (1 << bit) : mask & ~(1 << bit);
    }

    private static int positivePart(int cond) {
        return cond & LOW_MASK;
    }

    private static int negativePart(int cond) {
        return (cond >>> MASK_BITS) & LOW_MASK;
    }

    private static boolean isPermission(int perm) {
        return perm >= 0 && perm < PERMISSIONS;
    }

    private boolean isUser(int user) {
        return user >= 0 && user < userCount;
    }

    private boolean isRole(int role) {
        return role >= 0 && role < roleCount;
    }

    private boolean isRule(int rule) {
        return rule >= 0 && rule < ruleCount;
    }

    private boolean isStep(int k) {
        return k >= 0 && k < storedLength;
    }

    private boolean isRoleMask(int mask) {
        return mask >= 0 && mask < (1 << roleCount);
    }

    private boolean isCondition(int cond) {
        if ((cond >>> (2 * MASK_BITS)) != 0) {
            return false;
        }
        int positive = positivePart(cond);
        int negative = negativePart(cond);
        return isRoleMask(positive) && isRoleMask(negative) && (positive & negative) == 0;
    }

    private void rebuildClosures() {
        for (int role = 0; role < roleCount; role++) {
            closures[role] = directJuniors[role] | (1 << role);
        }
        // A path has fewer edges than there are roles, and each round lengthens
        // the paths that are known by at least one edge.
        for (int round = 0; round < roleCount; round++) {
            for (int role = 0; role < roleCount; role++) {
                closures[role] = expand(closures[role]);
            }
        }
    }

    private int expand(int set) {
        int all = 0;
        for (int role = 0; role < roleCount; role++) {
            if ((set & (1 << role)) != 0) {
                all |= closures[role];
            }
        }
        return all;
    }

    private boolean mayAdminister(int admin, int rule) {
        int effective = expand(assigned[admin]);
        return contains(effective, ruleAdminRoles[rule]);
    }

    private boolean meetsPreconditions(int rule, int effective) {
        int positive = rulePositives[rule];
        return (effective & positive) == positive && (effective & ruleNegatives[rule]) == 0;
    }

    private boolean makesChange(int rule, int set) {
        boolean present = contains(set, ruleTargets[rule]);
        return ruleKinds[rule] == ASSIGN ? !present : present;
    }

    private int resultOf(int rule, int set) {
        return changed(set, ruleTargets[rule], ruleKinds[rule] == ASSIGN);
    }

    // Breadth first with the rules in rising order: the sets are then found in the order of
    // their plans, shorter first and lesser first among equals, so that the way on which a set
    // is first found is its least shortest plan.
    private void search(int user) {
        for (int rule = 0; rule < ruleCount; rule++) {
            leastAdmins[rule] = leastAdminFor(rule, user);
        }
        for (int set = 0; set < MAX_SETS; set++) {
            distances[set] = NONE;
        }
        int start = assigned[user];
        distances[start] = 0;
        foundSets[0] = start;
        foundCount = 1;
        for (int next = 0; next < MAX_SETS && next < foundCount; next++) {
            searchFrom(foundSets[next]);
        }
    }

    private int leastAdminFor(int rule, int user) {
        for (int admin = 0; admin < userCount; admin++) {
            if (admin != user && mayAdminister(admin, rule)) {
                return admin;
            }
        }
        return NONE;
    }

    private void searchFrom(int set) {
        int effective = expand(set);
        for (int rule = 0; rule < ruleCount; rule++) {
            boolean applies = leastAdmins[rule] != NONE && meetsPreconditions(rule, effective);
            if (applies && makesChange(rule, set)) {
                int result = resultOf(rule, set);
                noteArrival(set, rule, result);
            }
        }
    }

    private void noteArrival(int set, int rule, int result) {
        if (distances[result] != NONE) {
            return;
        }
        distances[result] = distances[set] + 1;
        previousSets[result] = set;
        arrivalRules[result] = rule;
        foundSets[foundCount] = result;
        foundCount++;
    }

    private int firstFoundWith(int role) {
        for (int i = 0; i < foundCount; i++) {
            int effective = expand(foundSets[i]);
            if (contains(effective, role)) {
                return foundSets[i];
            }
        }
        return NONE;
    }

    private void storeWitness(int goal) {
        storedLength = distances[goal];
        int set = goal;
        for (int k = storedLength - 1; k >= 0; k--) {
            int rule = arrivalRules[set];
            witnessRules[k] = rule;
            witnessAdmins[k] = leastAdmins[rule];
            set = previousSets[set];
        }
    }
}
