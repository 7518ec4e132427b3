/** What "Terms" says of a path, sentence by sentence: every case up to six certificates, not some. */
public final class PathTest {
    private static final int NONE = Check.NONE;
    private static final int LONGEST = 6;
    private static final int PATTERNS = 1 << LONGEST;

    public static void main(String[] args) {
        numbersInTheirOrder();
        anchorsNameAndKey();
        subjectsNameAndKey();
        anyOfThreeAnchors();
        oneToSix();
        sixAmongTwelve();
        goodAtTheTime();
        notRevoked();
        notHeld();
        eachButTheLastAnAuthority();
        limits();
        limitsOfBoth();
        limitOfTheLast();
        selfIssuedByNameAlone();
        barredNames();
        allowedNames();
        allowedAndBarred();
        allSetsOfNames();
        ownNames();
        somePolicyOfAll();
        policyOfSix();
        fewestFirst();
        lesserNumberAtTheFirstPlace();
        everyPlaceMayDiffer();
        everyNumberAtEveryPlace();
        certificateTwice();
        targetTwice();
        Check.end();
    }

    /**
     * Six, each issued by the one before, those of the pattern self-issued: key i signs for key
     * i + 1, and the name goes up by one where a certificate is not self-issued.
     */
    private static TrustPaths chain(int pattern) {
        TrustPaths x = new TrustPaths();
        x.anchor(0, 0);
        for (int c = 0; c < LONGEST; c++) {
            int issuer = c == 0 ? 0 : subject(pattern, c - 1);
            x.make(8 * issuer + subject(pattern, c), 10 * c + c + 1);
        }
        return x;
    }

    private static boolean isSelfIssued(int pattern, int c) {
        return (pattern >> c & 1) == 1;
    }

    private static int subject(int pattern, int c) {
        int name = 0;
        for (int i = 0; i <= c; i++) {
            name += isSelfIssued(pattern, i) ? 0 : 1;
        }
        return name;
    }

    private static void numbersInTheirOrder() {
        Check.part("they have the numbers 0, 1, .. in their order");
        for (int names = 0; names < 64; names++) {
            TrustPaths x = new TrustPaths();
            for (int c = 0; c < 12; c++) {
                Check.due("make", x.make((names + 5 * c) % 64, (names + 7 * c) % 100), c, names);
            }
        }
    }

    private static void anchorsNameAndKey() {
        Check.part("the first one has the anchor's name and key as issuer name and key");
        for (int names = 0; names < 64; names++) {
            for (int keys = 0; keys < 100; keys++) {
                TrustPaths x = new TrustPaths();
                x.make(names, keys);
                int issuer = 10 * (names / 8) + keys / 10;
                for (int ends = 0; ends < 80; ends++) {
                    x.anchor(keys % 3, ends);
                    Check.due("trusted", x.trusted(0, 0), ends == issuer ? 1 : 0, names, keys, ends);
                }
                x.anchor(keys % 3, issuer);
                Check.due("keysOf", x.keysOf(names % 8, 0, 0), 1 << keys % 10, names, keys);
            }
        }
    }

    private static void subjectsNameAndKey() {
        Check.part("every other one has the subject name and key of the one before it");
        for (int one = 0; one < 80; one++) {
            for (int other = 0; other < 80; other++) {
                TrustPaths x = new TrustPaths();
                // The anchor is never where the second one is issued.
                int anchor = other == 0 ? 1 : 0;
                x.anchor(0, anchor);
                x.make(one / 10, 10 * anchor + one % 10);
                x.make(8 * (other / 10) + 7, 10 * (other % 10) + 9);
                Check.due("trusted, the first", x.trusted(0, 0), 1, one, other);
                Check.due("trusted, the second", x.trusted(1, 0), one == other ? 1 : 0, one, other);
            }
        }
    }

    private static void anyOfThreeAnchors() {
        Check.part("for which there is an anchor");
        for (int there = 0; there < 8; there++) {
            TrustPaths x = new TrustPaths();
            for (int a = 0; a < 3; a++) {
                x.make(8 * a + 7, 10 * a + 9);
                x.anchor(a, 11 * a);
            }
            x.make(8 * 7 + 6, 98);
            for (int a = 0; a < 3; a++) {
                if ((there >> a & 1) == 0) {
                    Check.due("distrust", x.distrust(a), 0, there, a);
                }
            }
            for (int a = 0; a < 3; a++) {
                Check.due("trusted", x.trusted(a, 0), there >> a & 1, there, a);
            }
            Check.due("trusted, after any of them", x.trusted(3, 0), there == 0 ? 0 : 1, there);
        }
    }

    private static void oneToSix() {
        Check.part("a list of one to six certificates");
        for (int size = 1; size <= 7; size++) {
            TrustPaths x = Check.line(size);
            for (int c = 0; c < size; c++) {
                Check.due("trusted", x.trusted(c, 0), c < 6 ? 1 : 0, size, c);
                Check.due("length", x.length(c, 0), c < 6 ? c + 1 : NONE, size, c);
                Check.due("step, the first", x.step(c, 0, 0), c < 6 ? 0 : NONE, size, c);
                Check.due("step, the last", x.step(c, 0, c), c < 6 ? c : NONE, size, c);
                Check.due("policies", x.policies(c, 0), c < 6 ? 15 : 0, size, c);
                Check.due("until", x.until(c, 0), c < 6 ? 100 : NONE, size, c);
                Check.due("keysOf", x.keysOf(c + 1, 0, 0), c < 6 ? 2 << c : 0, size, c);
            }
            Check.due("count", x.count(0), size < 6 ? size : 6, size);
        }
    }

    private static void sixAmongTwelve() {
        Check.part("a list of one to six certificates, twelve in a line, three anchors");
        for (int p = 0; p <= 12; p++) {
            for (int q = 0; q <= 12; q++) {
                for (int r = 0; r <= 12; r++) {
                    TrustPaths x = twelveInALine();
                    x.anchor(0, end(p));
                    x.anchor(1, end(q));
                    x.anchor(2, end(r));
                    for (int c = 0; c < 12; c++) {
                        int nearest = Math.max(Math.max(upTo(p, c), upTo(q, c)), upTo(r, c));
                        boolean led = c - nearest < 6;
                        Check.due("length", x.length(c, 0), led ? c - nearest + 1 : NONE, p, q, r, c);
                        Check.due("step", x.step(c, 0, 0), led ? nearest : NONE, p, q, r, c);
                    }
                }
            }
        }
    }

    private static TrustPaths twelveInALine() {
        TrustPaths x = new TrustPaths();
        for (int c = 0; c < 12; c++) {
            x.make(8 * (c % 8) + (c + 1) % 8, 10 * (c % 10) + (c + 1) % 10);
        }
        return x;
    }

    private static int end(int place) {
        return 10 * (place % 8) + place % 10;
    }

    private static int upTo(int place, int c) {
        return place <= c ? place : -100;
    }

    private static void goodAtTheTime() {
        Check.part("each is good at t (from <= t <= to)");
        int[][] spans = {{0, 0}, {0, 1}, {1, 1}, {0, 99}, {1, 99}, {1, 100}, {49, 51}, {50, 50}, {99, 99}, {100, 100}};
        for (int place = 0; place < LONGEST; place++) {
            for (int[] span : spans) {
                TrustPaths x = chain(0);
                x.times(place, span[0], span[1]);
                for (int t = 0; t <= 100; t++) {
                    int last = span[0] <= t && t <= span[1] ? 6 : place;
                    Check.due("count", x.count(t), last, place, span[0], span[1], t);
                }
            }
        }
    }

    private static void notRevoked() {
        Check.part("each is not revoked at t; REVOKED from a time on");
        for (int place = 0; place < LONGEST; place++) {
            for (int time = 0; time <= 100; time++) {
                TrustPaths x = chain(0);
                Check.due("revoke", x.revoke(place, time), 0, place, time);
                for (int t = 0; t <= 100; t++) {
                    Check.due("count", x.count(t), t < time ? 6 : place, place, time, t);
                }
                Check.due("revoke again", x.revoke(place, 100 - time), 1, place, time);
                for (int t = 0; t <= 100; t++) {
                    Check.due("count", x.count(t), t < 100 - time ? 6 : place, place, time, t);
                }
            }
        }
    }

    private static void notHeld() {
        Check.part("each is not held; HELD, which can be ended");
        for (int pattern = 0; pattern < PATTERNS; pattern++) {
            TrustPaths x = chain(0);
            for (int c = 0; c < LONGEST; c++) {
                Check.due("hold", x.hold(c, (pattern >> c & 1) == 1), 0, pattern, c);
            }
            int free = Integer.numberOfTrailingZeros(pattern | PATTERNS);
            Check.due("count(0)", x.count(0), free, pattern);
            Check.due("count(100)", x.count(100), free, pattern);
            for (int c = 0; c < LONGEST; c++) {
                Check.due("hold", x.hold(c, false), pattern >> c & 1, pattern, c);
            }
            Check.due("count(0), all ended", x.count(0), 6, pattern);
        }
    }

    private static void eachButTheLastAnAuthority() {
        Check.part("each but the last is an authority");
        for (int pattern = 0; pattern < PATTERNS; pattern++) {
            TrustPaths x = chain(0);
            for (int c = 0; c < LONGEST; c++) {
                x.set(c, 0, pattern >> c & 1);
            }
            for (int c = 0; c < LONGEST; c++) {
                int before = (1 << c) - 1;
                Check.due("trusted", x.trusted(c, 0), (pattern & before) == before ? 1 : 0, pattern, c);
            }
        }
    }

    private static void limits() {
        Check.part("for each with a limit below 4, at most so many .. are not self-issued");
        for (int pattern = 0; pattern < PATTERNS; pattern++) {
            for (int place = 0; place < LONGEST; place++) {
                for (int limit = 0; limit <= 4; limit++) {
                    TrustPaths x = chain(pattern);
                    x.set(place, 1, limit);
                    for (int c = 0; c < LONGEST; c++) {
                        int want = keeps(pattern, place, limit, c) ? 1 : 0;
                        Check.due("trusted", x.trusted(c, 0), want, pattern, place, limit, c);
                    }
                }
            }
        }
    }

    private static boolean keeps(int pattern, int place, int limit, int last) {
        int counted = 0;
        for (int c = place + 1; c < last; c++) {
            counted += isSelfIssued(pattern, c) ? 0 : 1;
        }
        return limit == 4 || counted <= limit;
    }

    private static void limitsOfBoth() {
        Check.part("for each with a limit below 4: of two limits both count");
        for (int pattern = 0; pattern < PATTERNS; pattern++) {
            for (int place = 0; place < 4; place++) {
                for (int limits = 0; limits < 16; limits++) {
                    TrustPaths x = chain(pattern);
                    x.set(place, 1, limits / 4);
                    x.set(place + 1, 1, limits % 4);
                    boolean one = keeps(pattern, place, limits / 4, 5);
                    boolean other = keeps(pattern, place + 1, limits % 4, 5);
                    Check.due("trusted", x.trusted(5, 0), one && other ? 1 : 0, pattern, place, limits);
                }
            }
        }
    }

    private static void limitOfTheLast() {
        Check.part("the last one not counted");
        for (int size = 1; size <= 6; size++) {
            TrustPaths x = Check.line(size);
            x.set(size - 1, 1, 0);
            Check.due("limit 0 of the last", x.trusted(size - 1, 0), 1, size);
        }
        TrustPaths x = Check.line(3);
        x.set(0, 1, 0);
        Check.due("limit 0, the last after it", x.trusted(1, 0), 1);
        Check.due("limit 0, one before the last", x.trusted(2, 0), 0);
        x.anchor(1, 11);
        Check.due("limit 0 of one that is not on the path", x.trusted(2, 0), 1);
    }

    private static void selfIssuedByNameAlone() {
        Check.part("SELF-ISSUED if its issuer name is its subject name");
        for (int key = 0; key < 10; key++) {
            TrustPaths x = new TrustPaths();
            x.anchor(0, 0);
            x.make(8 * 0 + 1, 1);
            x.make(8 * 1 + 1, 10 + key);
            x.make(8 * 1 + 2, 10 * key + 2);
            x.set(0, 1, 0);
            Check.due("same name, limit 0", x.trusted(2, 0), 1, key);
            TrustPaths y = new TrustPaths();
            y.anchor(0, 0);
            y.make(8 * 0 + 1, 1);
            y.make(8 * 1 + 3, 10 + key);
            y.make(8 * 3 + 2, 10 * key + 2);
            y.set(0, 1, 0);
            Check.due("another name, limit 0", y.trusted(2, 0), 0, key);
            y.set(0, 1, 1);
            Check.due("another name, limit 1", y.trusted(2, 0), 1, key);
        }
    }

    private static void barredNames() {
        Check.part("a subject name that is .. not among the barred ones, of all that come before it");
        for (int pattern = 0; pattern < PATTERNS; pattern++) {
            for (int place = 0; place < LONGEST; place++) {
                for (int name = 0; name < 8; name++) {
                    TrustPaths x = chain(pattern);
                    x.set(place, 3, 1 << name);
                    dueWithout(x, pattern, place, name);
                }
            }
        }
    }

    private static void allowedNames() {
        Check.part("a subject name that is among the allowed names .. of all that come before it");
        for (int pattern = 0; pattern < PATTERNS; pattern++) {
            for (int place = 0; place < LONGEST; place++) {
                for (int name = 0; name < 8; name++) {
                    TrustPaths x = chain(pattern);
                    x.set(place, 2, 255 - (1 << name));
                    dueWithout(x, pattern, place, name);
                }
            }
        }
    }

    /** Place lets all names through but one: that hits those after it that have the name. */
    private static void dueWithout(TrustPaths x, int pattern, int place, int name) {
        for (int last = 0; last < LONGEST; last++) {
            boolean free = true;
            for (int c = place + 1; c <= last; c++) {
                boolean looked = c == last || !isSelfIssued(pattern, c);
                free = free && !(looked && subject(pattern, c) == name);
            }
            Check.due("trusted", x.trusted(last, 0), free ? 1 : 0, pattern, place, name, last);
        }
    }

    private static void allowedAndBarred() {
        Check.part("among the allowed names, and not among the barred ones");
        for (int allowed = 0; allowed < 256; allowed += 5) {
            for (int barred = 0; barred < 256; barred += 3) {
                TrustPaths x = new TrustPaths();
                x.anchor(0, 0);
                x.make(7, 9);
                for (int name = 0; name < 8; name++) {
                    x.make(8 * 7 + name, 90 + name);
                }
                x.set(0, 2, allowed);
                x.set(0, 3, barred);
                for (int name = 0; name < 8; name++) {
                    int want = (allowed & ~barred) >> name & 1;
                    Check.due("trusted", x.trusted(1 + name, 0), want, allowed, barred, name);
                }
            }
        }
    }

    private static void allSetsOfNames() {
        Check.part("sets of ALLOWED and of BARRED names (bits 0 .. 255)");
        for (int set = 0; set < 256; set++) {
            TrustPaths x = new TrustPaths();
            x.anchor(0, 0);
            x.make(0, 1);
            for (int name = 0; name < 8; name++) {
                x.make(name, 12);
            }
            x.set(0, 2, set);
            for (int name = 0; name < 8; name++) {
                Check.due("trusted, allowed", x.trusted(1 + name, 0), set >> name & 1, set, name);
            }
            x.set(0, 2, 255);
            x.set(0, 3, set);
            for (int name = 0; name < 8; name++) {
                Check.due("trusted, barred", x.trusted(1 + name, 0), 1 - (set >> name & 1), set, name);
            }
        }
    }

    private static void ownNames() {
        Check.part("of all that come before it");
        for (int pattern = 0; pattern < PATTERNS; pattern++) {
            TrustPaths x = chain(pattern);
            for (int c = 0; c < LONGEST; c++) {
                // Its own subject name: it lets everything else through.
                boolean again = c + 1 < LONGEST && isSelfIssued(pattern, c + 1);
                if (!again) {
                    x.set(c, 2, 255 - (1 << subject(pattern, c)));
                    x.set(c, 3, 1 << subject(pattern, c));
                }
            }
            Check.due("trusted, each bars its own name", x.trusted(5, 0), 1, pattern);
            x.set(5, 2, 0);
            x.set(5, 3, 255);
            Check.due("trusted, the last bars all", x.trusted(5, 0), 1, pattern);
            x.set(5, 2, 255);
            x.set(5, 3, 0);
            x.set(4, 2, 0);
            Check.due("trusted, the one before allows none", x.trusted(5, 0), 0, pattern);
            x.set(4, 2, 255);
            x.set(4, 3, 255);
            Check.due("trusted, the one before bars all", x.trusted(5, 0), 0, pattern);
        }
    }

    private static void somePolicyOfAll() {
        Check.part("some policy is in the policies of all of them");
        for (int sets = 0; sets < 16 * 16 * 16; sets++) {
            TrustPaths x = Check.line(3);
            int common = 15;
            for (int c = 0; c < 3; c++) {
                int set = sets >> (4 * c) & 15;
                x.set(c, 4, set);
                common &= set;
                Check.due("trusted", x.trusted(c, 0), common == 0 ? 0 : 1, sets, c);
                Check.due("policies", x.policies(c, 0), common, sets, c);
                for (int p = 0; p < 4; p++) {
                    int want = (common >> p & 1) << (c + 1);
                    Check.due("keysOf", x.keysOf(c + 1, 0, p), want, sets, c, p);
                }
            }
        }
    }

    private static void policyOfSix() {
        Check.part("some policy is in the policies of all of them: of six");
        for (int place = 0; place < LONGEST; place++) {
            for (int set = 0; set < 16; set++) {
                TrustPaths x = chain(0);
                x.set(place, 4, set);
                Check.due("policies", x.policies(5, 0), set, place, set);
                Check.due("trusted", x.trusted(5, 0), set == 0 ? 0 : 1, place, set);
                x.set((place + 1) % 6, 4, 15 - set);
                Check.due("policies", x.policies(5, 0), 0, place, set);
                Check.due("trusted", x.trusted(5, 0), 0, place, set);
            }
        }
    }

    private static void fewestFirst() {
        Check.part("THE BEST path is the one with the fewest certificates");
        for (int skipped = 0; skipped < 5; skipped++) {
            TrustPaths x = Check.line(6);
            // Skips some: from name 0 past the skipped ones, with the greatest number.
            Check.link(x, 0, skipped + 1);
            Check.due("length", x.length(5, 0), 6 - skipped, skipped);
            Check.due("step", x.step(5, 0, 0), skipped == 0 ? 0 : 6, skipped);
            x.hold(6, true);
            Check.due("length, the short one held", x.length(5, 0), 6, skipped);
        }
        TrustPaths x = Check.line(6);
        Check.link(x, 0, 6);
        Check.due("one of six and one of one: not the same last", x.length(5, 0), 6);
        Check.due("one of one", x.length(6, 0), 1);
    }

    /** Two ways of three to the same last one, made in each of the 120 orders. */
    private static void lesserNumberAtTheFirstPlace() {
        Check.part("of several the one with the lesser number at the first place at which they differ");
        for (int order = 0; order < 120; order++) {
            int[] turn = permutation(order);
            int[][] ways = {{0, 1}, {1, 3}, {0, 2}, {2, 3}, {3, 4}};
            int[] number = new int[5];
            TrustPaths x = new TrustPaths();
            x.anchor(0, 0);
            for (int link : turn) {
                number[link] = Check.link(x, ways[link][0], ways[link][1]);
            }
            boolean first = number[0] < number[2];
            Check.due("step 0", x.step(number[4], 0, 0), first ? number[0] : number[2], order);
            Check.due("step 1", x.step(number[4], 0, 1), first ? number[1] : number[3], order);
            Check.due("step 2", x.step(number[4], 0, 2), number[4], order);
            Check.due("narrow", x.narrow(number[4], 0), NONE, order);
        }
    }

    private static int[] permutation(int order) {
        int[] turn = {0, 1, 2, 3, 4};
        int rest = order;
        for (int i = 4; i > 0; i--) {
            int other = rest % (i + 1);
            rest /= i + 1;
            int kept = turn[i];
            turn[i] = turn[other];
            turn[other] = kept;
        }
        return turn;
    }

    private static void everyPlaceMayDiffer() {
        Check.part("the lesser number at the first place at which they differ: at each place of six");
        for (int place = 0; place < 5; place++) {
            TrustPaths x = Check.line(6);
            Check.due("make", Check.link(x, place, place + 1), 6);
            Check.due("step, the lesser", x.step(5, 0, place), place, place);
            x.set(place, 4, 1);
            x.set(5, 4, 2);
            Check.due("step, the only one", x.step(5, 0, place), 6, place);
            for (int i = 0; i < 6; i++) {
                Check.due("step, the others", x.step(5, 0, i), i == place ? 6 : i, place, i);
            }
        }
    }

    /** A path of six among twelve, whose other six lead nowhere. */
    private static void everyNumberAtEveryPlace() {
        Check.part("twelve certificates, each of which may stand at each place");
        for (int shift = 0; shift < 12; shift++) {
            for (int stride = 1; stride < 12; stride++) {
                if (stride % 2 == 0 || stride % 3 == 0) {
                    continue;
                }
                TrustPaths x = new TrustPaths();
                x.anchor(shift % 3, 0);
                int[] number = new int[LONGEST];
                for (int c = 0; c < 12; c++) {
                    // Its place, so that place i has the number (shift + stride * i) % 12.
                    int place = (c + 12 - shift) * stride % 12;
                    if (place < LONGEST) {
                        number[place] = Check.link(x, place, place + 1);
                    } else {
                        x.make(8 * 7 + 7, 99);
                    }
                }
                int least = number[0];
                for (int i = 0; i < LONGEST; i++) {
                    Check.due("step", x.step(number[5], 100, i), number[i], shift, stride, i);
                    Check.due("length", x.length(number[i], 100), i + 1, shift, stride, i);
                    Check.due("depending", x.depending(number[i], 100), 6 - i, shift, stride, i);
                    Check.due("narrow", x.narrow(number[i], 100), i == 0 ? NONE : least, shift, stride, i);
                    least = Math.min(least, number[i]);
                }
                Check.due("count", x.count(100), 6, shift, stride);
            }
        }
    }

    /** The six rows do not rule out that one comes twice; no answer changes by such a path. */
    private static void certificateTwice() {
        Check.part("a path may have a certificate twice");
        TrustPaths x = Check.line(3);
        Check.due("make, back from 2 to 1", Check.link(x, 2, 1), 3);
        Check.due("length(2, 0)", x.length(2, 0), 3);
        Check.due("length(3, 0)", x.length(3, 0), 3);
        Check.due("narrow(2, 0)", x.narrow(2, 0), 0);
        Check.due("depending(3, 0)", x.depending(3, 0), 1);
        Check.due("depending(1, 0)", x.depending(1, 0), 3);
        x.set(1, 3, 4);
        Check.due("1 bars its own name, once is enough", x.trusted(2, 0), 1);
        x.set(3, 4, 0);
        Check.due("policies(2, 0)", x.policies(2, 0), 15);
    }

    private static void targetTwice() {
        Check.part("T may come before the last place as well");
        TrustPaths x = new TrustPaths();
        x.anchor(0, 0);
        x.make(0, 0);
        Check.due("length(0, 0)", x.length(0, 0), 1);
        Check.due("step(0, 0, 1)", x.step(0, 0, 1), NONE);
        Check.due("narrow(0, 0)", x.narrow(0, 0), NONE);
        Check.due("depending(0, 0)", x.depending(0, 0), 1);
        x.set(0, 1, 0);
        x.set(0, 3, 1);
        Check.due("it bars its own name", x.trusted(0, 0), 1);
        x.set(0, 0, 0);
        Check.due("it is no authority", x.length(0, 0), 1);
        x.anchor(0, 1);
        Check.due("a ring of one without an anchor", x.trusted(0, 0), 0);
        TrustPaths y = new TrustPaths();
        y.anchor(0, 0);
        Check.link(y, 1, 0);
        Check.link(y, 0, 1);
        Check.due("length(0, 0)", y.length(0, 0), 2);
        Check.due("length(1, 0)", y.length(1, 0), 1);
        Check.due("narrow(0, 0)", y.narrow(0, 0), 1);
        Check.due("narrow(1, 0), T itself is the least", y.narrow(1, 0), NONE);
        Check.due("depending(0, 0)", y.depending(0, 0), 1);
    }
}
