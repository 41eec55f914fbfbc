/** Objects in which every part of the state holds something, for the sentences on what stays. */
final class Sample {
    /**
     * One rule slot is left where there are two or more. With two users and three rules or more the
     * stored witness is that of the last user for the last role, and has two steps.
     */
    static AdminRoleAnalyser of(int users, int roles, int rules) {
        AdminRoleAnalyser x = notAnalysed(users, roles, rules);
        x.analyse(users - 1, users == 1 ? 0 : roles - 1);
        return x;
    }

    static AdminRoleAnalyser notAnalysed(int users, int roles, int rules) {
        AdminRoleAnalyser x = new AdminRoleAnalyser(users, roles, rules);
        for (int role = 1; role < roles; role++) {
            if (role % 3 != 0) {
                x.addInheritance(role, role - 1);
            }
            if (role % 2 == 0) {
                x.addInheritance(role, role - 2);
            }
        }
        for (int role = 0; role < roles; role++) {
            for (int perm = 0; perm < 16; perm++) {
                x.grantPermission(role, perm, grants(role, perm));
            }
        }
        x.setAssigned(0, 0, true);
        for (int user = 1; user < users - 1; user++) {
            x.setAssigned(user, user % roles, true);
        }
        x.addRule(1, 0, roles - 1, Check.cond(1 << (roles - 2), 0));
        for (int rule = 1; rule < rules - 1; rule++) {
            x.addRule(kind(rule), rule == 1 ? 0 : rule % roles, target(rule, roles), cond(rule, roles));
        }
        return x;
    }

    static boolean grants(int role, int perm) {
        return (3 * role + perm) % 4 == 0;
    }

    private static int kind(int rule) {
        return rule == 1 ? 1 : 1 + rule % 2;
    }

    private static int target(int rule, int roles) {
        return rule == 1 ? roles - 2 : rule * 3 % roles;
    }

    private static int cond(int rule, int roles) {
        return rule == 1 ? 0 : Check.cond(1 << rule % roles, 1 << (rule + 1) % roles);
    }

    /** Eight roles that move like the places of a Gray code: user 1 needs 128 steps for role 7. */
    static AdminRoleAnalyser longestPlans() {
        AdminRoleAnalyser x = new AdminRoleAnalyser(2, 8, 16);
        x.setAssigned(0, 0, true);
        for (int role = 0; role < 8; role++) {
            int positive = role == 0 ? 0 : 1 << (role - 1);
            int negative = ((1 << role) - 1) & ~positive;
            x.addRule(1, 0, role, Check.cond(positive, negative));
            x.addRule(2, 0, role, Check.cond(positive, negative));
        }
        return x;
    }
}
