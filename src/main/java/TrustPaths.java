/** Certificates, and whether a way leads to one from what is trusted. */
public final class TrustPaths {
    public static final int BAD = -1;
    public static final int NONE = -2;
    public static final int FULL = -3;

    private static final int CERTIFICATES = 12;
    private static final int ANCHORS = 3;
    private static final int NAMES = 8;
    private static final int KEYS = 10;
    private static final int POLICIES = 4;
    private static final int ALL_NAMES = 255;
    private static final int ALL_POLICIES = 15;
    private static final int LAST_TIME = 100;
    private static final int NEVER = LAST_TIME + 1;
    private static final int NO_LIMIT = 4;
    private static final int LONGEST = 6;
    private static final int NOBODY = -1;

    // A search goes forward and back at most 130,000 times: at most five places
    // are tried, each with those of eleven certificates that are not yet used.
    private static final int MOST_MOVES = 4000000;

    // An END is 10 * name + key, as in the argument of anchor.
    private final int[] issuerEnd = new int[CERTIFICATES];
    private final int[] subjectEnd = new int[CERTIFICATES];
    private final boolean[] selfIssued = new boolean[CERTIFICATES];
    private final int[] goodFrom = new int[CERTIFICATES];
    private final int[] goodTo = new int[CERTIFICATES];
    private final int[] authority = new int[CERTIFICATES];
    private final int[] limit = new int[CERTIFICATES];
    private final int[] allowed = new int[CERTIFICATES];
    private final int[] barred = new int[CERTIFICATES];
    private final int[] policySet = new int[CERTIFICATES];
    private final int[] revokedFrom = new int[CERTIFICATES];
    private final boolean[] held = new boolean[CERTIFICATES];
    private int made;

    private final boolean[] anchorThere = new boolean[ANCHORS];
    private final int[] anchorEnd = new int[ANCHORS];

    // The rest serves one search and means nothing after it, but for path, which
    // has the path that was found. The arrays named ..Left have, for each place of
    // the path, what the certificates before that place leave to it.
    private final int[] path = new int[LONGEST];
    private final int[] certificatesLeft = new int[LONGEST];
    private final int[] namesLeft = new int[LONGEST];
    private final int[] roomLeft = new int[LONGEST];
    private final int[] policiesLeft = new int[LONGEST];
    private int anchored;

    public TrustPaths() {
        made = 0;
    }

    public int make(int names, int keys) {
        if (names < 0 || names >= NAMES * NAMES || keys < 0 || keys >= KEYS * KEYS) {
            return BAD;
        }
        if (made >= CERTIFICATES) {
            return FULL;
        }
        int c = made;
        int issuer = names / NAMES;
        int subject = names % NAMES;
        issuerEnd[c] = KEYS * issuer + keys / KEYS;
        subjectEnd[c] = KEYS * subject + keys % KEYS;
        selfIssued[c] = issuer == subject;
        goodFrom[c] = 0;
        goodTo[c] = LAST_TIME;
        authority[c] = 1;
        limit[c] = NO_LIMIT;
        allowed[c] = ALL_NAMES;
        barred[c] = 0;
        policySet[c] = ALL_POLICIES;
        revokedFrom[c] = NEVER;
        held[c] = false;
        made = c + 1;
        return c;
    }

    public int times(int c, int from, int to) {
        if (!isCertificate(c) || !isTime(from) || !isTime(to) || from > to) {
            return BAD;
        }
        goodFrom[c] = from;
        goodTo[c] = to;
        return 0;
    }

    public int set(int c, int what, int value) {
        if (!isCertificate(c) || value < 0) {
            return BAD;
        }
        switch (what) {
            case 0:
                return replace(authority, c, value, 1);
            case 1:
                return replace(limit, c, value, NO_LIMIT);
            case 2:
                return replace(allowed, c, value, ALL_NAMES);
            case 3:
                return replace(barred, c, value, ALL_NAMES);
            case 4:
                return replace(policySet, c, value, ALL_POLICIES);
            default:
                return BAD;
        }
    }

    public int revoke(int c, int time) {
        if (!isCertificate(c) || !isTime(time)) {
            return BAD;
        }
        int before = revokedFrom[c];
        revokedFrom[c] = time;
        return before == NEVER ? 0 : 1;
    }

    public int hold(int c, boolean flag) {
        if (!isCertificate(c)) {
            return BAD;
        }
        boolean before = held[c];
        held[c] = flag;
        return before ? 1 : 0;
    }

    public int anchor(int a, int ends) {
        if (!isAnchor(a) || ends < 0 || ends >= NAMES * KEYS) {
            return BAD;
        }
        boolean before = anchorThere[a];
        anchorThere[a] = true;
        anchorEnd[a] = ends;
        return before ? 1 : 0;
    }

    public int distrust(int a) {
        if (!isAnchor(a)) {
            return BAD;
        }
        if (!anchorThere[a]) {
            return NONE;
        }
        anchorThere[a] = false;
        return 0;
    }

    public int trusted(int c, int time) {
        if (!isCertificate(c) || !isTime(time)) {
            return BAD;
        }
        int usable = usableAt(time);
        return bestLength(c, usable, ALL_POLICIES) > 0 ? 1 : 0;
    }

    public int length(int c, int time) {
        if (!isCertificate(c) || !isTime(time)) {
            return BAD;
        }
        int usable = usableAt(time);
        int best = bestLength(c, usable, ALL_POLICIES);
        return best > 0 ? best : NONE;
    }

    public int step(int c, int time, int i) {
        if (!isCertificate(c) || !isTime(time)) {
            return BAD;
        }
        int usable = usableAt(time);
        int best = bestLength(c, usable, ALL_POLICIES);
        return i >= 0 && i < best ? path[i] : NONE;
    }

    public int policies(int c, int time) {
        if (!isCertificate(c) || !isTime(time)) {
            return BAD;
        }
        int usable = usableAt(time);
        int found = 0;
        for (int p = 0; p < POLICIES; p++) {
            if (bestLength(c, usable, 1 << p) > 0) {
                found |= 1 << p;
            }
        }
        return found;
    }

    public int count(int time) {
        if (!isTime(time)) {
            return BAD;
        }
        int usable = usableAt(time);
        return countTrusted(usable);
    }

    public int keysOf(int name, int time, int policy) {
        if (name < 0 || name >= NAMES || !isTime(time) || policy < 0 || policy >= POLICIES) {
            return BAD;
        }
        int usable = usableAt(time);
        int found = 0;
        for (int c = 0; c < made; c++) {
            if (subjectEnd[c] / KEYS == name && bestLength(c, usable, 1 << policy) > 0) {
                found |= 1 << (subjectEnd[c] % KEYS);
            }
        }
        return found;
    }

    public int until(int c, int time) {
        if (!isCertificate(c) || !isTime(time)) {
            return BAD;
        }
        int last = NONE;
        for (int t = time; t <= LAST_TIME; t++) {
            int usable = usableAt(t);
            if (bestLength(c, usable, ALL_POLICIES) == 0) {
                break;
            }
            last = t;
        }
        return last;
    }

    public int depending(int c, int time) {
        if (!isCertificate(c) || !isTime(time)) {
            return BAD;
        }
        // A held certificate opens no path, so none becomes trusted by it.
        int usable = usableAt(time);
        int before = countTrusted(usable);
        int after = countTrusted(usable & ~(1 << c));
        return before - after;
    }

    public int narrow(int c, int time) {
        if (!isCertificate(c) || !isTime(time)) {
            return BAD;
        }
        int usable = usableAt(time);
        if (bestLength(c, usable, ALL_POLICIES) == 0) {
            return NONE;
        }
        for (int other = 0; other < made; other++) {
            int rest = usable & ~(1 << other);
            if (other != c && bestLength(c, rest, ALL_POLICIES) == 0) {
                return other;
            }
        }
        return NONE;
    }

    private boolean isCertificate(int c) {
        return c >= 0 && c < made;
    }

    private boolean isAnchor(int a) {
        return a >= 0 && a < ANCHORS;
    }

    private boolean isTime(int time) {
        return time >= 0 && time <= LAST_TIME;
    }

    private int replace(int[] settings, int c, int value, int greatest) {
        if (value > greatest) {
            return BAD;
        }
        int before = settings[c];
        settings[c] = value;
        return before;
    }

    /** The set of the certificates that are good, not revoked and not held (bit c for c). */
    private int usableAt(int time) {
        int usable = 0;
        for (int c = 0; c < made; c++) {
            if (goodFrom[c] <= time && time <= goodTo[c] && time < revokedFrom[c] && !held[c]) {
                usable |= 1 << c;
            }
        }
        return usable;
    }

    private int countTrusted(int usable) {
        int found = 0;
        for (int c = 0; c < made; c++) {
            if (bestLength(c, usable, ALL_POLICIES) > 0) {
                found++;
            }
        }
        return found;
    }

    /**
     * The length of the best path to target among those of usable certificates that have one of
     * the wanted policies in common, 0 if there is none. The path itself is left in path.
     */
    private int bestLength(int target, int usable, int wanted) {
        if ((usable >> target & 1) == 0) {
            return 0;
        }
        anchored = anchoredCertificates();
        // A path on which a certificate comes twice stays a path without what lies between, so
        // no answer changes if each is used once, and the target at the end alone.
        certificatesLeft[0] = usable & ~(1 << target);
        namesLeft[0] = ALL_NAMES;
        roomLeft[0] = LONGEST;
        policiesLeft[0] = wanted;
        for (int length = 1; length <= LONGEST; length++) {
            if (findPath(target, length - 1)) {
                return length;
            }
        }
        return 0;
    }

    private int anchoredCertificates() {
        int found = 0;
        for (int c = 0; c < made; c++) {
            for (int a = 0; a < ANCHORS; a++) {
                if (anchorThere[a] && anchorEnd[a] == issuerEnd[c]) {
                    found |= 1 << c;
                }
            }
        }
        return found;
    }

    /** Tries the lists with target at the place last, those with lesser numbers first. */
    private boolean findPath(int target, int last) {
        int place = 0;
        path[0] = NOBODY;
        for (int moves = 0; place >= 0 && moves < MOST_MOVES; moves++) {
            if (place == last) {
                if (canEnd(place, target)) {
                    path[place] = target;
                    return true;
                }
                place--;
            } else {
                int c = nextBetween(place);
                if (c == NOBODY) {
                    place--;
                } else {
                    path[place] = c;
                    openNext(place, c);
                    place++;
                    path[place] = NOBODY;
                }
            }
        }
        return false;
    }

    private int nextBetween(int place) {
        for (int c = path[place] + 1; c < made; c++) {
            boolean canIssue = (certificatesLeft[place] >> c & 1) == 1 && authority[c] == 1;
            if (canIssue && isLinked(place, c)) {
                if (selfIssued[c] || (roomLeft[place] > 0 && isNamed(place, c))) {
                    return c;
                }
            }
        }
        return NOBODY;
    }

    private boolean canEnd(int place, int c) {
        return isLinked(place, c) && isNamed(place, c);
    }

    private boolean isLinked(int place, int c) {
        if ((policiesLeft[place] & policySet[c]) == 0) {
            return false;
        }
        if (place == 0) {
            return (anchored >> c & 1) == 1;
        }
        return subjectEnd[path[place - 1]] == issuerEnd[c];
    }

    private boolean isNamed(int place, int c) {
        return (namesLeft[place] >> (subjectEnd[c] / KEYS) & 1) == 1;
    }

    private void openNext(int place, int c) {
        int room = selfIssued[c] ? roomLeft[place] : roomLeft[place] - 1;
        if (limit[c] < NO_LIMIT && limit[c] < room) {
            room = limit[c];
        }
        certificatesLeft[place + 1] = certificatesLeft[place] & ~(1 << c);
        namesLeft[place + 1] = namesLeft[place] & allowed[c] & ~barred[c];
        roomLeft[place + 1] = room;
        policiesLeft[place + 1] = policiesLeft[place] & policySet[c];
    }
}
