import java.util.ArrayList;
import java.util.List;

/**
 * Runs of calls beside a model that lists all paths by the document's definition, certificates
 * that come twice among them, and answers from that list.
 */
public final class ModelTest {
    private static final int RUNS = 600;
    private static final int CALLS = 160;
    private static final int MOST_CALLS = 512;
    private static final int MOST_SHOWN = 20;
    private static final int[] EDGE_TIMES = {0, 1, 2, 49, 50, 51, 98, 99, 100};
    private static final int[] FAR = {Integer.MIN_VALUE, Integer.MIN_VALUE + 1, -1, 256, Integer.MAX_VALUE};

    private static int wrong = 0;
    private static long seed = 1;

    public static void main(String[] args) {
        for (int run = 0; run < RUNS; run++) {
            // Few names and keys make many paths; the model is too slow for more than
            // some certificates then.
            int shape = run % 5;
            compare(run, shape, run % 12 == 3 ? MOST_CALLS : CALLS);
        }
        if (wrong > 0) {
            System.out.println(wrong + " wrong");
            System.exit(1);
        }
    }

    private static int pick(int bound) {
        seed = seed * 6364136223846793005L + 1442695040888963407L;
        return (int) ((seed >>> 33) % bound);
    }

    private static void compare(int run, int shape, int calls) {
        TrustPaths x = new TrustPaths();
        Model m = new Model();
        int names = shape == 0 ? 2 : shape == 1 ? 3 : shape == 2 ? 4 : 8;
        int keys = shape == 0 ? 1 : shape == 1 ? 2 : 1;
        int most = shape == 0 ? 5 : shape <= 2 ? 9 : 13;
        // Mirrored, the same runs have the greatest names and keys.
        boolean mirrored = run / 5 % 2 == 1;
        List<String> done = new ArrayList<>();
        for (int call = 0; call < calls; call++) {
            int[] a = arguments(call, names, keys, most, m.all.size(), shape - 2);
            if (mirrored) {
                mirror(a);
            }
            if (pick(40) == 0) {
                a[1 + pick(a.length - 1)] = FAR[pick(FAR.length)];
            }
            long got = answer(x, a);
            long want = m.answer(a);
            done.add(text(a) + " -> " + got);
            if (got != want) {
                wrong++;
                if (wrong <= MOST_SHOWN) {
                    System.out.println("run " + run + ": " + done + ", due is " + want);
                }
                return;
            }
        }
    }

    private static void mirror(int[] a) {
        if (a[0] == 0) {
            a[1] = 63 - a[1];
            a[2] = 99 - a[2];
        } else if (a[0] == 5) {
            a[2] = 79 - a[2];
        } else if (a[0] == 12) {
            a[1] = 7 - a[1];
        }
    }

    /**
     * The number of the method, and its arguments. With line 1 most are issued to the next name,
     * and with line 2 each name issues in turn and the anchors are 0 and 1, which makes long paths.
     */
    private static int[] arguments(int call, int names, int keys, int most, int made, int line) {
        int method = call < 2 ? 5 : call < 2 * most && pick(4) > 0 ? 0 : pick(16);
        if (method == 0 && made >= most) {
            method = 1 + pick(15);
        }
        // Revocations cannot be ended, and anchors that move break long paths: too many of
        // both, and nothing is trusted.
        if (call >= 2 && (method == 3 || method == 5 || method == 6) && pick(5) > 0) {
            method = 7 + pick(9);
        }
        int c = pick(20) == 0 ? pick(15) - 1 : pick(made == 0 ? 1 : made);
        int time = pick(30) == 0 ? pick(2) * 102 - 1 : EDGE_TIMES[pick(EDGE_TIMES.length)];
        int issuer = line < 2 ? pick(names) : method == 0 ? 5 * made % names : pick(2);
        int subject = line > 0 && pick(4) > 0 ? (issuer + 1) % names : pick(names);
        int issuerKey = pick(keys);
        switch (method) {
            case 0: return new int[] {0, 8 * issuer + subject, 10 * issuerKey + pick(keys)};
            case 1: return new int[] {1, c, pick(2) * time, pick(3) == 0 ? time : 100 - pick(52)};
            case 2: return setting(c);
            case 3: return new int[] {3, c, pick(3) == 0 ? time : 100 - pick(50)};
            case 4: return new int[] {4, c, pick(3) == 0 ? 1 : 0};
            case 5: return new int[] {5, pick(30) == 0 ? 3 : pick(3), 10 * issuer + issuerKey};
            case 6: return new int[] {pick(3) == 0 ? 6 : 5, pick(4), 10 * pick(2) + issuerKey};
            case 9: return new int[] {9, c, time, pick(8) - 1};
            case 12: return new int[] {12, pick(names), time, pick(20) == 0 ? 4 : pick(4)};
            default: return new int[] {method, c, time};
        }
    }

    private static int[] setting(int c) {
        int what = pick(20) == 0 ? pick(7) - 1 : pick(5);
        int some = 255 - (1 << pick(8));
        int value = 0;
        switch (what) {
            case 0: value = pick(4) == 0 ? 0 : 1; break;
            case 1: value = pick(6); break;
            case 2: value = pick(3) == 0 ? some : 255; break;
            case 3: value = pick(3) == 0 ? 255 - some : 0; break;
            case 4: value = pick(15) == 0 ? 16 : pick(16) | pick(16); break;
            default: break;
        }
        return new int[] {2, c, what, value};
    }

    private static String text(int[] a) {
        String[] methods = {"make", "times", "set", "revoke", "hold", "anchor", "distrust", "trusted",
            "length", "step", "policies", "count", "keysOf", "until", "depending", "narrow"};
        StringBuilder text = new StringBuilder(methods[a[0]]);
        for (int i = 1; i < a.length; i++) {
            text.append(' ').append(a[i]);
        }
        return text.toString();
    }

    private static long answer(TrustPaths x, int[] a) {
        switch (a[0]) {
            case 0: return x.make(a[1], a[2]);
            case 1: return x.times(a[1], a[2], a[3]);
            case 2: return x.set(a[1], a[2], a[3]);
            case 3: return x.revoke(a[1], a[2]);
            case 4: return x.hold(a[1], a[2] == 1);
            case 5: return x.anchor(a[1], a[2]);
            case 6: return x.distrust(a[1]);
            case 7: return x.trusted(a[1], a[2]);
            case 8: return x.length(a[1], a[2]);
            case 9: return x.step(a[1], a[2], a[3]);
            case 10: return x.policies(a[1], a[2]);
            case 11: return x.count(a[2]);
            case 12: return x.keysOf(a[1], a[2], a[3]);
            case 13: return x.until(a[1], a[2]);
            case 14: return x.depending(a[1], a[2]);
            default: return x.narrow(a[1], a[2]);
        }
    }

    private static final class Certificate {
        int issuer;
        int subject;
        int issuerKey;
        int subjectKey;
        int from = 0;
        int to = 100;
        int[] settings = {1, 4, 255, 0, 15};
        Integer revoked = null;
        boolean held = false;

        boolean isSelfIssued() {
            return issuer == subject;
        }

        boolean isUsable(int t) {
            return from <= t && t <= to && !(revoked != null && revoked <= t) && !held;
        }

        boolean permits(int name) {
            return (settings[2] >> name) % 2 == 1 && (settings[3] >> name) % 2 == 0;
        }
    }

    private static final class Model {
        final List<Certificate> all = new ArrayList<>();
        final int[] anchors = {-1, -1, -1};

        long answer(int[] a) {
            switch (a[0]) {
                case 0: return make(a[1], a[2]);
                case 5: return anchor(a[1], a[2]);
                case 6: return distrust(a[1]);
                case 11: return isTime(a[2]) ? trustedOnes(a[2]).size() : -1;
                case 12: return keysOf(a[1], a[2], a[3]);
                default: break;
            }
            if (a[1] < 0 || a[1] >= all.size()) {
                return -1;
            }
            Certificate c = all.get(a[1]);
            switch (a[0]) {
                case 1: return times(c, a[2], a[3]);
                case 2: return set(c, a[2], a[3]);
                case 4: return hold(c, a[2] == 1);
                default: return isTime(a[2]) ? atTime(a, c) : -1;
            }
        }

        private long atTime(int[] a, Certificate c) {
            if (a[0] == 3) {
                int before = c.revoked == null ? 0 : 1;
                c.revoked = a[2];
                return before;
            }
            if (a[0] == 13) {
                return until(c, a[2]);
            }
            if (a[0] == 14) {
                return depending(c, a[2]);
            }
            List<List<Certificate>> paths = paths(c, a[2]);
            switch (a[0]) {
                case 7: return paths.isEmpty() ? 0 : 1;
                case 8: return paths.isEmpty() ? -2 : best(paths).size();
                case 9: return step(paths, a[3]);
                case 10: return policies(paths);
                default: return narrow(paths, c);
            }
        }

        private boolean isTime(int t) {
            return 0 <= t && t <= 100;
        }

        private int make(int names, int keys) {
            if (names < 0 || names > 63 || keys < 0 || keys > 99) {
                return -1;
            }
            if (all.size() == 12) {
                return -3;
            }
            Certificate c = new Certificate();
            c.issuer = names / 8;
            c.subject = names % 8;
            c.issuerKey = keys / 10;
            c.subjectKey = keys % 10;
            all.add(c);
            return all.size() - 1;
        }

        private int anchor(int a, int ends) {
            if (a < 0 || a > 2 || ends < 0 || ends > 79) {
                return -1;
            }
            int before = anchors[a] < 0 ? 0 : 1;
            anchors[a] = ends;
            return before;
        }

        private int distrust(int a) {
            if (a < 0 || a > 2) {
                return -1;
            }
            int before = anchors[a];
            anchors[a] = -1;
            return before < 0 ? -2 : 0;
        }

        private int times(Certificate c, int from, int to) {
            if (!isTime(from) || !isTime(to) || from > to) {
                return -1;
            }
            c.from = from;
            c.to = to;
            return 0;
        }

        private int set(Certificate c, int what, int value) {
            int[] most = {1, 4, 255, 255, 15};
            if (what < 0 || what > 4 || value < 0 || value > most[what]) {
                return -1;
            }
            int before = c.settings[what];
            c.settings[what] = value;
            return before;
        }

        private int hold(Certificate c, boolean flag) {
            int before = c.held ? 1 : 0;
            c.held = flag;
            return before;
        }

        private List<Certificate> trustedOnes(int t) {
            List<Certificate> found = new ArrayList<>();
            for (Certificate c : all) {
                if (!paths(c, t).isEmpty()) {
                    found.add(c);
                }
            }
            return found;
        }

        private int step(List<List<Certificate>> paths, int i) {
            if (paths.isEmpty() || i < 0 || i >= best(paths).size()) {
                return -2;
            }
            return all.indexOf(best(paths).get(i));
        }

        private int policies(List<List<Certificate>> paths) {
            int found = 0;
            for (List<Certificate> path : paths) {
                found |= common(path);
            }
            return found;
        }

        private int keysOf(int name, int t, int policy) {
            if (name < 0 || name > 7 || !isTime(t) || policy < 0 || policy > 3) {
                return -1;
            }
            int found = 0;
            for (Certificate c : all) {
                if (c.subject == name && (policies(paths(c, t)) >> policy) % 2 == 1) {
                    found |= 1 << c.subjectKey;
                }
            }
            return found;
        }

        private int until(Certificate c, int t) {
            int last = t;
            while (last <= 100 && !paths(c, last).isEmpty()) {
                last++;
            }
            return last == t ? -2 : last - 1;
        }

        private int depending(Certificate c, int t) {
            List<Certificate> before = trustedOnes(t);
            boolean held = c.held;
            c.held = true;
            before.removeAll(trustedOnes(t));
            c.held = held;
            return before.size();
        }

        private int narrow(List<List<Certificate>> paths, Certificate target) {
            if (paths.isEmpty()) {
                return -2;
            }
            for (Certificate c : all) {
                boolean onAll = c != target;
                for (List<Certificate> path : paths) {
                    onAll = onAll && path.contains(c);
                }
                if (onAll) {
                    return all.indexOf(c);
                }
            }
            return -2;
        }

        private List<Certificate> best(List<List<Certificate>> paths) {
            List<Certificate> best = paths.get(0);
            for (List<Certificate> path : paths) {
                if (path.size() < best.size() || (path.size() == best.size() && isLess(path, best))) {
                    best = path;
                }
            }
            return best;
        }

        private boolean isLess(List<Certificate> one, List<Certificate> other) {
            for (int i = 0; i < one.size(); i++) {
                if (one.get(i) != other.get(i)) {
                    return all.indexOf(one.get(i)) < all.indexOf(other.get(i));
                }
            }
            return false;
        }

        private List<List<Certificate>> paths(Certificate target, int t) {
            List<List<Certificate>> found = new ArrayList<>();
            List<Certificate> list = new ArrayList<>();
            list.add(target);
            collect(list, t, found);
            return found;
        }

        /** Lists every chain that ends with the list, and keeps those that are paths. */
        private void collect(List<Certificate> list, int t, List<List<Certificate>> found) {
            if (isPath(list, t)) {
                found.add(new ArrayList<>(list));
            }
            if (list.size() == 6) {
                return;
            }
            Certificate first = list.get(0);
            for (Certificate c : all) {
                if (c.subject == first.issuer && c.subjectKey == first.issuerKey) {
                    list.add(0, c);
                    collect(list, t, found);
                    list.remove(0);
                }
            }
        }

        private boolean isPath(List<Certificate> list, int t) {
            Certificate first = list.get(0);
            boolean anchored = false;
            for (int ends : anchors) {
                anchored = anchored || ends == 10 * first.issuer + first.issuerKey;
            }
            int last = list.size() - 1;
            for (int i = 0; anchored && i <= last; i++) {
                Certificate c = list.get(i);
                if (!c.isUsable(t) || (i < last && c.settings[0] == 0) || !keepsLimit(list, i)) {
                    return false;
                }
                for (int j = i + 1; j <= last; j++) {
                    Certificate later = list.get(j);
                    if ((!later.isSelfIssued() || j == last) && !c.permits(later.subject)) {
                        return false;
                    }
                }
            }
            return anchored && common(list) != 0;
        }

        private boolean keepsLimit(List<Certificate> list, int i) {
            int between = 0;
            for (int j = i + 1; j < list.size() - 1; j++) {
                if (!list.get(j).isSelfIssued()) {
                    between++;
                }
            }
            int limit = list.get(i).settings[1];
            return limit == 4 || between <= limit;
        }

        private int common(List<Certificate> list) {
            int common = 15;
            for (Certificate c : list) {
                common &= c.settings[4];
            }
            return common;
        }
    }
}
