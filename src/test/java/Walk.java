import java.util.ArrayList;
import java.util.Arrays;
import java.util.List;

/**
 * How far act itself can bring one user: from the user's explicit set, the least number of
 * OK-answering calls to each other set, with any admins. The object is left as it was.
 */
final class Walk {
    private final int[] calls = new int[256];
    private final int[] effective = new int[256];

    Walk(AdminRoleAnalyser x, int user) {
        int start = x.explicitRoles(user);
        Arrays.fill(calls, -1);
        calls[start] = 0;
        List<Integer> sets = new ArrayList<>(List.of(start));
        for (int next = 0; next < sets.size(); next++) {
            int set = sets.get(next);
            Probe.assign(x, user, set);
            effective[set] = x.effectiveRoles(user);
            for (int result : results(x, user, set)) {
                if (calls[result] == -1) {
                    calls[result] = calls[set] + 1;
                    sets.add(result);
                }
            }
        }
        Probe.assign(x, user, start);
    }

    private static List<Integer> results(AdminRoleAnalyser x, int user, int set) {
        List<Integer> all = new ArrayList<>();
        for (int rule = 0; rule < 16; rule++) {
            for (int admin = 0; admin < 8; admin++) {
                if (x.act(admin, user, rule) == Check.OK) {
                    all.add(x.explicitRoles(user));
                    Probe.assign(x, user, set);
                }
            }
        }
        return all;
    }

    /** The least number of calls after which the user holds the role, -1 if there is none. */
    int callsTo(int role) {
        int least = -1;
        for (int set = 0; set < 256; set++) {
            boolean holds = calls[set] >= 0 && (effective[set] >> role & 1) == 1;
            if (holds && (least == -1 || calls[set] < least)) {
                least = calls[set];
            }
        }
        return least;
    }
}
