/** The edges of each promise: the empty object, the full one, the least and the most it can answer. */
public final class EdgesTest {
    private static final int BAD = Check.BAD;
    private static final int NONE = Check.NONE;
    private static final int FULL = Check.FULL;

    public static void main(String[] args) {
        noCertificates();
        noAnchors();
        twelveWereMade();
        twelveAreEverMade();
        whatIsMade();
        whatItWas();
        wasRevoked();
        timeBeforeNoLongerCounts();
        wasHeld();
        anchorWasThere();
        anchorIsNotThere();
        sameAnchorThrice();
        trustedOrNot();
        noPathForLength();
        stepsOfEachLength();
        policiesOfSomePath();
        countFromNoneToTwelve();
        allKeysOfAName();
        namesApart();
        pathWithThePolicy();
        untilTheLastTime();
        untilOfEachSpan();
        untilByAnotherPath();
        untilThroughManyPaths();
        dependingFromNoneToTwelve();
        dependingOnOneNotTrusted();
        dependingWithAnotherWay();
        narrowOfALine();
        narrowLeastNumber();
        narrowNone();
        narrowOneNotTrusted();
        narrowWayTooLong();
        twoWaysOfOnePolicy();
        Check.end();
    }

    private static void noCertificates() {
        Check.part("promise 1, no certificates");
        TrustPaths x = new TrustPaths();
        for (int time = 0; time <= 100; time++) {
            Check.due("count", x.count(time), 0, time);
        }
        for (int name = 0; name < 8; name++) {
            for (int policy = 0; policy < 4; policy++) {
                Check.due("keysOf", x.keysOf(name, 0, policy), 0, name, policy);
                Check.due("keysOf", x.keysOf(name, 100, policy), 0, name, policy);
            }
        }
        for (int c = 0; c < 12; c++) {
            noSuchCertificate(x, c);
        }
        Check.due("make", x.make(0, 0), 0);
    }

    private static void noSuchCertificate(TrustPaths x, int c) {
        Check.due("times", x.times(c, 0, 100), BAD, c);
        Check.due("set", x.set(c, 0, 1), BAD, c);
        Check.due("revoke", x.revoke(c, 0), BAD, c);
        Check.due("hold", x.hold(c, true), BAD, c);
        Check.due("hold", x.hold(c, false), BAD, c);
        Check.due("trusted", x.trusted(c, 0), BAD, c);
        Check.due("length", x.length(c, 0), BAD, c);
        Check.due("step", x.step(c, 0, 0), BAD, c);
        Check.due("policies", x.policies(c, 0), BAD, c);
        Check.due("until", x.until(c, 0), BAD, c);
        Check.due("depending", x.depending(c, 0), BAD, c);
        Check.due("narrow", x.narrow(c, 0), BAD, c);
    }

    private static void noAnchors() {
        Check.part("promise 1, no anchors");
        TrustPaths x = new TrustPaths();
        for (int a = 0; a < 3; a++) {
            Check.due("distrust", x.distrust(a), NONE, a);
        }
        // An anchor of 0 by mistake would lead to name 0 with key 0.
        x.make(0, 0);
        x.make(1, 1);
        Check.due("count", x.count(0), 0);
        for (int a = 0; a < 3; a++) {
            Check.due("anchor", x.anchor(a, 79), 0, a);
        }
        Check.due("count", x.count(0), 0);
        for (int a = 0; a < 3; a++) {
            Check.due("distrust", x.distrust(a), 0, a);
        }
    }

    private static void twelveWereMade() {
        Check.part("promise 2, twelve were made: FULL");
        TrustPaths x = new TrustPaths();
        for (int c = 0; c < 12; c++) {
            Check.due("a refused make", x.make(64, 0), BAD, c);
            Check.due("a refused make", x.make(0, 100), BAD, c);
            Check.due("make", x.make(c, c), c);
        }
        for (int again = 0; again < 5; again++) {
            Check.due("make", x.make(again, again), FULL, again);
        }
    }

    private static void twelveAreEverMade() {
        Check.part("terms, at most twelve certificates are ever made");
        TrustPaths x = Check.line(7);
        for (int c = 7; c < 12; c++) {
            x.make(0, 0);
        }
        for (int c = 0; c < 12; c++) {
            x.hold(c, true);
            x.revoke(c, 0);
            x.times(c, 0, 0);
            Check.due("make, none is given up", x.make(0, 0), FULL, c);
        }
        Check.due("distrust", x.distrust(0), 0);
        Check.due("make, without anchors", x.make(63, 99), FULL);
        TrustPaths other = new TrustPaths();
        Check.due("make, of another object", other.make(63, 99), 0);
    }

    private static void whatIsMade() {
        Check.part("promise 2, good from 0 to 100, an authority, no limit, all allowed, none barred, all policies");
        for (int c = 0; c < 12; c++) {
            TrustPaths x = new TrustPaths();
            for (int i = 0; i <= c; i++) {
                x.make(10, 34);
            }
            x.anchor(0, 13);
            Check.due("trusted(c, 0)", x.trusted(c, 0), 1, c);
            Check.due("trusted(c, 100)", x.trusted(c, 100), 1, c);
            Check.due("until(c, 0)", x.until(c, 0), 100, c);
            Check.due("policies", x.policies(c, 0), 15, c);
            Check.due("keysOf", x.keysOf(2, 0, 0), 16, c);
            int[] values = {1, 4, 255, 0, 15};
            for (int what = 0; what < 5; what++) {
                Check.due("set", x.set(c, what, 0), values[what], c, what);
            }
            Check.due("hold", x.hold(c, false), 0, c);
            Check.due("revoke", x.revoke(c, 100), 0, c);
        }
    }

    private static void whatItWas() {
        Check.part("promise 4, answers what it was");
        int[] most = {1, 4, 255, 255, 15};
        for (int what = 0; what < 5; what++) {
            TrustPaths x = Check.line(2);
            x.set(0, what, most[what]);
            int before = most[what];
            for (int value = 0; value <= most[what]; value++) {
                Check.due("set", x.set(0, what, value), before, what, value);
                before = value;
            }
            Check.due("set, refused", x.set(0, what, most[what] + 1), BAD, what);
            Check.due("set, refused", x.set(0, what, -1), BAD, what);
            Check.due("set after refusals", x.set(0, what, 0), most[what], what);
            Check.due("set, the same again", x.set(0, what, 0), 0, what);
            for (int other = 0; other < 5; other++) {
                int[] atFirst = {1, 4, 255, 0, 15};
                Check.due("set, of the other", x.set(1, other, 0), atFirst[other], what, other);
                if (other != what) {
                    Check.due("set, another thing", x.set(0, other, 0), atFirst[other], what, other);
                }
            }
        }
    }

    private static void wasRevoked() {
        Check.part("promise 5, answers 1 if it was revoked from some time on before, else 0");
        for (int time = 0; time <= 100; time++) {
            TrustPaths x = Check.line(2);
            Check.due("revoke, refused", x.revoke(0, 101), BAD, time);
            Check.due("revoke, refused", x.revoke(0, -1), BAD, time);
            Check.due("revoke", x.revoke(0, time), 0, time);
            Check.due("revoke again", x.revoke(0, time), 1, time);
            Check.due("revoke again", x.revoke(0, 100), 1, time);
            Check.due("revoke again", x.revoke(0, 0), 1, time);
            Check.due("revoke the other", x.revoke(1, time), 0, time);
        }
    }

    private static void timeBeforeNoLongerCounts() {
        Check.part("promise 5, a time at which it was revoked before no longer counts");
        int[] some = {0, 1, 49, 50, 51, 99, 100};
        for (int one : some) {
            for (int other : some) {
                TrustPaths x = Check.line(1);
                x.revoke(0, one);
                x.revoke(0, other);
                for (int t = 0; t <= 100; t++) {
                    Check.due("trusted", x.trusted(0, t), t < other ? 1 : 0, one, other, t);
                }
            }
        }
        TrustPaths x = Check.line(1);
        x.revoke(0, 50);
        x.times(0, 60, 70);
        Check.due("revoked before it is good", x.trusted(0, 60), 0);
        x.times(0, 0, 100);
        Check.due("times do not end a revocation", x.trusted(0, 50), 0);
        x.hold(0, true);
        x.hold(0, false);
        Check.due("nor does a hold that is ended", x.trusted(0, 50), 0);
        Check.due("before it", x.trusted(0, 49), 1);
    }

    private static void wasHeld() {
        Check.part("promise 6, answers 1 if it was held, else 0");
        for (int calls = 0; calls < 32; calls++) {
            TrustPaths x = Check.line(2);
            int held = 0;
            for (int i = 0; i < 5; i++) {
                int flag = calls >> i & 1;
                Check.due("hold", x.hold(0, flag == 1), held, calls, i);
                held = flag;
                Check.due("trusted", x.trusted(0, 0), 1 - held, calls, i);
                Check.due("trusted, the one after", x.trusted(1, 0), 1 - held, calls, i);
            }
            Check.due("hold, the other", x.hold(1, true), 0, calls);
        }
    }

    private static void anchorWasThere() {
        Check.part("promise 7, answers 1 if the anchor was there, else 0");
        for (int a = 0; a < 3; a++) {
            TrustPaths x = new TrustPaths();
            Check.due("anchor, refused", x.anchor(a, 80), BAD, a);
            Check.due("anchor, refused", x.anchor(a, -1), BAD, a);
            Check.due("anchor", x.anchor(a, 0), 0, a);
            Check.due("anchor, the same again", x.anchor(a, 0), 1, a);
            Check.due("anchor, another", x.anchor(a, 79), 1, a);
            Check.due("anchor, the next", x.anchor((a + 1) % 3, 79), 0, a);
            Check.due("distrust", x.distrust(a), 0, a);
            Check.due("anchor after distrust", x.anchor(a, 79), 0, a);
            Check.due("anchor, the next", x.anchor((a + 1) % 3, 0), 1, a);
            Check.due("anchor, the third", x.anchor((a + 2) % 3, 0), 0, a);
        }
    }

    private static void anchorIsNotThere() {
        Check.part("promise 8, it is not there: NONE");
        for (int a = 0; a < 3; a++) {
            TrustPaths x = new TrustPaths();
            Check.due("distrust", x.distrust(a), NONE, a);
            x.anchor(a, 0);
            Check.due("distrust, another", x.distrust((a + 1) % 3), NONE, a);
            Check.due("distrust, another", x.distrust((a + 2) % 3), NONE, a);
            Check.due("distrust", x.distrust(a), 0, a);
            Check.due("distrust again", x.distrust(a), NONE, a);
            x.make(0, 0);
            Check.due("trusted, by none", x.trusted(0, 0), 0, a);
        }
    }

    private static void sameAnchorThrice() {
        Check.part("terms, at most three anchors 0 .. 2");
        TrustPaths x = Check.line(2);
        x.anchor(1, 0);
        x.anchor(2, 0);
        for (int a = 0; a < 3; a++) {
            Check.due("count", x.count(0), 2, a);
            Check.due("length", x.length(1, 0), 2, a);
            Check.due("narrow", x.narrow(1, 0), 0, a);
            Check.due("distrust", x.distrust(a), 0, a);
        }
        Check.due("count", x.count(0), 0);
        x.anchor(0, 0);
        x.anchor(0, 55);
        Check.due("count, the anchor is another one", x.count(0), 0);
        x.anchor(2, 11);
        Check.due("length, the second by itself", x.length(1, 0), 1);
    }

    private static void trustedOrNot() {
        Check.part("promise 9, 1 if a certificate is trusted at a time, else 0");
        TrustPaths x = Check.line(1);
        x.times(0, 1, 99);
        Check.due("trusted(0, 0)", x.trusted(0, 0), 0);
        Check.due("trusted(0, 1)", x.trusted(0, 1), 1);
        Check.due("trusted(0, 99)", x.trusted(0, 99), 1);
        Check.due("trusted(0, 100)", x.trusted(0, 100), 0);
        Check.due("trusted(0, 101)", x.trusted(0, 101), BAD);
        Check.due("trusted(0, -1)", x.trusted(0, -1), BAD);
    }

    private static void noPathForLength() {
        Check.part("promise 10, there is no path: NONE");
        TrustPaths x = new TrustPaths();
        Check.link(x, 0, 1);
        Check.due("no anchor", x.length(0, 0), NONE);
        x.anchor(0, 1);
        Check.due("another anchor", x.length(0, 0), NONE);
        x.anchor(0, 0);
        Check.due("the anchor", x.length(0, 0), 1);
        x.set(0, 4, 0);
        Check.due("no policies", x.length(0, 0), NONE);
        x.set(0, 4, 8);
        Check.due("one policy", x.length(0, 0), 1);
        x.hold(0, true);
        Check.due("held", x.length(0, 0), NONE);
        x.hold(0, false);
        x.revoke(0, 100);
        Check.due("not yet revoked", x.length(0, 99), 1);
        Check.due("revoked", x.length(0, 100), NONE);
    }

    private static void stepsOfEachLength() {
        Check.part("promise 11, certificate i (0 the first) of the best path; no such certificate: NONE");
        for (int size = 1; size <= 6; size++) {
            TrustPaths x = Check.line(size);
            for (int i = -2; i <= 8; i++) {
                Check.due("step", x.step(size - 1, 0, i), 0 <= i && i < size ? i : NONE, size, i);
            }
            Check.due("step, least", x.step(size - 1, 0, Check.LEAST), NONE, size);
            Check.due("step, greatest", x.step(size - 1, 0, Check.GREATEST), NONE, size);
            x.hold(0, true);
            for (int i = -2; i <= 8; i++) {
                Check.due("step, no path", x.step(size - 1, 0, i), NONE, size, i);
            }
        }
        TrustPaths x = Check.line(6);
        Check.due("step(5, 0, 5)", x.step(5, 0, 5), 5);
        Check.due("step(0, 0, 1), nothing is left of the path before", x.step(0, 0, 1), NONE);
        Check.due("step(0, 0, 5)", x.step(0, 0, 5), NONE);
    }

    private static void policiesOfSomePath() {
        Check.part("promise 12, each is in the policies of all certificates of some path");
        TrustPaths x = new TrustPaths();
        x.anchor(0, 0);
        for (int p = 0; p < 4; p++) {
            Check.link(x, 0, 1);
            x.set(p, 4, 1 << p);
        }
        Check.due("make", Check.link(x, 1, 2), 4);
        Check.due("policies, of four paths", x.policies(4, 0), 15);
        for (int set = 0; set < 16; set++) {
            for (int p = 0; p < 4; p++) {
                x.hold(p, (set >> p & 1) == 0);
            }
            Check.due("policies", x.policies(4, 0), set, set);
            Check.due("trusted", x.trusted(4, 0), set == 0 ? 0 : 1, set);
        }
        TrustPaths y = Check.line(1);
        y.distrust(0);
        Check.due("policies, no path is 0, not NONE", y.policies(0, 0), 0);
    }

    private static void countFromNoneToTwelve() {
        Check.part("promise 13, how many certificates are trusted at a time");
        TrustPaths x = new TrustPaths();
        x.anchor(0, 0);
        for (int c = 0; c < 12; c++) {
            Check.due("count", x.count(0), c);
            x.make(c % 8, c % 10);
        }
        Check.due("count of twelve", x.count(0), 12);
        Check.due("make, the thirteenth", x.make(0, 0), FULL);
        Check.due("count after FULL", x.count(100), 12);
        for (int c = 0; c < 12; c++) {
            x.times(c, c, 100 - c);
        }
        for (int c = 0; c < 12; c++) {
            Check.due("count, one more at each time", x.count(c), c + 1, c);
            Check.due("count, one less at each time", x.count(100 - c), c + 1, c);
        }
    }

    private static void allKeysOfAName() {
        Check.part("promise 14, the set of the subject keys (bit k for key k)");
        for (int name = 0; name < 8; name++) {
            TrustPaths x = new TrustPaths();
            x.anchor(0, 70);
            int found = 0;
            for (int key = 0; key < 10; key++) {
                Check.due("keysOf", x.keysOf(name, 0, 0), found, name, key);
                x.make(8 * 7 + name, key);
                found |= 1 << key;
            }
            Check.due("keysOf, all", x.keysOf(name, 0, 3), 1023, name);
            x.make(8 * 7 + name, 9);
            Check.due("keysOf, a key twice", x.keysOf(name, 0, 3), 1023, name);
            x.hold(9, true);
            Check.due("keysOf, by the second", x.keysOf(name, 0, 3), 1023, name);
            x.hold(10, true);
            Check.due("keysOf, by none", x.keysOf(name, 0, 3), 511, name);
        }
    }

    private static void namesApart() {
        Check.part("promise 14, those certificates with this subject name");
        for (int name = 0; name < 8; name++) {
            TrustPaths x = new TrustPaths();
            x.anchor(0, 0);
            x.make(name, 9);
            for (int asked = 0; asked < 8; asked++) {
                Check.due("keysOf", x.keysOf(asked, 0, 0), asked == name ? 512 : 0, name, asked);
            }
        }
    }

    private static void pathWithThePolicy() {
        Check.part("promise 14, a path all of whose certificates have the policy");
        for (int p = 0; p < 4; p++) {
            TrustPaths x = Check.line(2);
            Check.link(x, 0, 3);
            Check.link(x, 3, 1);
            // The short way lacks the policy; the way over name 3 has it alone.
            x.set(0, 4, 15 - (1 << p));
            x.set(2, 4, 1 << p);
            for (int policy = 0; policy < 4; policy++) {
                Check.due("keysOf", x.keysOf(2, 0, policy), 4, p, policy);
                Check.due("keysOf", x.keysOf(3, 0, policy), policy == p ? 8 : 0, p, policy);
            }
            Check.due("length, the shortest of any policy", x.length(1, 0), 2, p);
            Check.due("policies", x.policies(1, 0), 15, p);
        }
    }

    private static void untilTheLastTime() {
        Check.part("promise 15, the greatest time from time on up to which (it included)");
        TrustPaths x = Check.line(6);
        for (int t = 0; t <= 100; t++) {
            Check.due("until", x.until(5, t), 100, t);
        }
        x.times(5, 0, 99);
        Check.due("until, 99 the last", x.until(5, 0), 99);
        Check.due("until at 99", x.until(5, 99), 99);
        Check.due("until at 100", x.until(5, 100), NONE);
        x.times(5, 100, 100);
        Check.due("until at 99", x.until(5, 99), NONE);
        Check.due("until at 100", x.until(5, 100), 100);
        x.times(5, 0, 0);
        Check.due("until at 0", x.until(5, 0), 0);
        Check.due("until at 1", x.until(5, 1), NONE);
    }

    private static void untilOfEachSpan() {
        Check.part("promise 15, it is not trusted at time: NONE");
        for (int from = 0; from <= 100; from++) {
            for (int to = from; to <= 100; to++) {
                TrustPaths x = Check.line(2);
                x.times(from % 2, from, to);
                Check.due("until at from", x.until(1, from), to, from, to);
                Check.due("until at to", x.until(1, to), to, from, to);
                Check.due("until between", x.until(1, (from + to) / 2), to, from, to);
                Check.due("until before", x.until(1, from - 1), from == 0 ? BAD : NONE, from, to);
                Check.due("until after", x.until(1, to + 1), to == 100 ? BAD : NONE, from, to);
                x.revoke(1 - from % 2, to);
                Check.due("until, revoked", x.until(1, from), from == to ? NONE : to - 1, from, to);
            }
        }
    }

    private static void untilByAnotherPath() {
        Check.part("promise 15, trusted at all times");
        int[] some = {0, 1, 2, 49, 50, 51, 52, 98, 99, 100};
        for (int to : some) {
            for (int from : some) {
                TrustPaths x = Check.line(2);
                Check.link(x, 0, 1);
                x.times(0, 0, to);
                x.times(2, from, 100);
                boolean gap = from > to + 1;
                Check.due("until", x.until(1, 0), gap ? to : 100, to, from);
                Check.due("until at from", x.until(1, from), 100, to, from);
                if (gap) {
                    Check.due("until in the gap", x.until(1, to + 1), NONE, to, from);
                    Check.due("until in the gap", x.until(1, from - 1), NONE, to, from);
                }
            }
        }
    }

    private static void untilThroughManyPaths() {
        Check.part("promise 15, at all times: by another path at each");
        TrustPaths x = new TrustPaths();
        x.anchor(0, 0);
        for (int c = 0; c < 11; c++) {
            Check.link(x, 0, 1);
            x.times(c, 9 * c, 9 * c + 8);
        }
        Check.due("make", Check.link(x, 1, 2), 11);
        Check.due("until", x.until(11, 0), 98);
        x.hold(5, true);
        Check.due("until, a hole", x.until(11, 0), 44);
        Check.due("until after the hole", x.until(11, 54), 98);
        Check.due("until in the hole", x.until(11, 53), NONE);
    }

    private static void dependingFromNoneToTwelve() {
        Check.part("promise 16, how many .. would not be, if certificate c were held (c itself counted)");
        TrustPaths x = new TrustPaths();
        x.anchor(0, 0);
        for (int c = 0; c < 12; c++) {
            // The first one names 1 with key 1, and all the others are issued by that.
            x.make(c == 0 ? 1 : 8 + 2 + c % 6, c == 0 ? 1 : 10 + 2 + c % 8);
            Check.due("depending(0, 0)", x.depending(0, 0), c + 1);
            Check.due("depending(c, 100)", x.depending(c, 100), 1, c);
        }
        x.hold(0, true);
        Check.due("depending, held already", x.depending(0, 0), 0);
        x.hold(0, false);
        x.times(0, 50, 60);
        Check.due("depending, not yet good", x.depending(0, 49), 0);
        Check.due("depending, good", x.depending(0, 50), 12);
        Check.due("depending, good", x.depending(0, 60), 12);
        Check.due("depending, no longer good", x.depending(0, 61), 0);
        x.set(0, 0, 0);
        Check.due("depending, no authority", x.depending(0, 50), 1);
        x.distrust(0);
        Check.due("depending, nothing is trusted", x.depending(0, 50), 0);
    }

    /** One that is barred as the last, but may stand on the way, for it is self-issued. */
    private static TrustPaths barredOnTheWay() {
        TrustPaths x = new TrustPaths();
        x.anchor(0, 0);
        x.make(1, 1);
        x.make(8 * 1 + 1, 12);
        x.make(8 * 1 + 2, 23);
        x.make(1, 1);
        x.set(0, 3, 2);
        x.set(3, 3, 2);
        return x;
    }

    private static void dependingOnOneNotTrusted() {
        Check.part("promise 16, c itself counted, if it is trusted");
        TrustPaths x = barredOnTheWay();
        Check.due("trusted(1, 0)", x.trusted(1, 0), 0);
        Check.due("trusted(2, 0)", x.trusted(2, 0), 1);
        Check.due("depending(1, 0), the one after alone", x.depending(1, 0), 1);
        x.set(0, 3, 0);
        Check.due("depending(1, 0), itself too", x.depending(1, 0), 2);
        x.hold(2, true);
        Check.due("depending(1, 0), itself alone", x.depending(1, 0), 1);
        x.set(0, 3, 2);
        Check.due("depending(1, 0), none", x.depending(1, 0), 0);
    }

    private static void dependingWithAnotherWay() {
        Check.part("promise 16, those that are trusted and would not be");
        TrustPaths x = Check.line(6);
        Check.link(x, 0, 1);
        Check.due("depending(0, 0), another of the same", x.depending(0, 0), 1);
        Check.due("depending(6, 0)", x.depending(6, 0), 1);
        x.set(6, 1, 3);
        Check.due("depending(0, 0), the other has a limit", x.depending(0, 0), 2);
        x.set(6, 1, 0);
        Check.due("depending(0, 0), the other has limit 0", x.depending(0, 0), 5);
        // A way round that is one certificate longer: six become seven for the last one.
        TrustPaths y = Check.line(6);
        Check.link(y, 0, 7);
        Check.link(y, 7, 1);
        Check.due("depending(0, 0), too long for the last", y.depending(0, 0), 2);
    }

    /** A line of four made in each of the 24 orders. */
    private static void narrowOfALine() {
        Check.part("promise 17, of these the one with the least number");
        for (int order = 0; order < 24; order++) {
            int[] number = new int[4];
            TrustPaths x = new TrustPaths();
            x.anchor(0, 0);
            boolean[] taken = new boolean[4];
            int rest = order;
            for (int left = 4; left > 0; left--) {
                int link = free(taken, rest % left);
                rest /= left;
                taken[link] = true;
                number[link] = Check.link(x, link, link + 1);
            }
            int least = NONE;
            for (int c = 0; c < 4; c++) {
                Check.due("narrow", x.narrow(number[c], 0), least, order, c);
                least = c == 0 ? number[0] : Math.min(least, number[c]);
            }
        }
    }

    private static int free(boolean[] taken, int which) {
        int left = which;
        for (int i = 0; i < taken.length; i++) {
            if (!taken[i]) {
                if (left == 0) {
                    return i;
                }
                left--;
            }
        }
        return -1;
    }

    private static void narrowLeastNumber() {
        Check.part("promise 17, the certificate that is on all paths to T");
        for (int doubled = 0; doubled < 32; doubled++) {
            TrustPaths x = Check.line(6);
            int made = 6;
            int least = NONE;
            for (int place = 4; place >= 0; place--) {
                if ((doubled >> place & 1) == 1) {
                    Check.due("make", Check.link(x, place, place + 1), made, doubled);
                    made++;
                } else {
                    least = place;
                }
            }
            Check.due("narrow", x.narrow(5, 0), least, doubled);
            x.hold(0, true);
            boolean led = (doubled & 1) == 1;
            Check.due("narrow, the first held", x.narrow(5, 0), led ? leastOf(doubled, made) : NONE, doubled);
        }
    }

    /** The first place has only the later one now, which was made last. */
    private static int leastOf(int doubled, int made) {
        for (int place = 1; place < 5; place++) {
            if ((doubled >> place & 1) == 0) {
                return place;
            }
        }
        return made - 1;
    }

    private static void narrowNone() {
        Check.part("promise 17, T is not trusted, or there is none: NONE");
        TrustPaths x = Check.line(2);
        Check.due("narrow(0, 0), T alone", x.narrow(0, 0), NONE);
        Check.due("narrow(1, 0)", x.narrow(1, 0), 0);
        x.anchor(1, 11);
        Check.due("narrow(1, 0), a path of T alone", x.narrow(1, 0), NONE);
        x.distrust(1);
        Check.due("narrow(1, 0)", x.narrow(1, 0), 0);
        x.hold(0, true);
        Check.due("narrow(1, 0), not trusted", x.narrow(1, 0), NONE);
        x.hold(0, false);
        x.times(1, 1, 99);
        Check.due("narrow(1, 0), not good", x.narrow(1, 0), NONE);
        Check.due("narrow(1, 1)", x.narrow(1, 1), 0);
        Check.due("narrow(1, 99)", x.narrow(1, 99), 0);
        Check.due("narrow(1, 100)", x.narrow(1, 100), NONE);
    }

    private static void narrowOneNotTrusted() {
        Check.part("promise 17, one on all paths that is not trusted itself");
        TrustPaths x = barredOnTheWay();
        Check.due("trusted(1, 0)", x.trusted(1, 0), 0);
        Check.due("narrow(2, 0)", x.narrow(2, 0), 1);
        Check.due("narrow(1, 0)", x.narrow(1, 0), NONE);
        x.hold(3, true);
        Check.due("narrow(2, 0), one for the first place", x.narrow(2, 0), 0);
        // Eleven for the first place, and T the twelfth and last one.
        TrustPaths y = new TrustPaths();
        y.anchor(2, 0);
        for (int c = 0; c < 11; c++) {
            Check.link(y, 0, 1);
        }
        Check.due("make", Check.link(y, 1, 2), 11);
        Check.due("narrow(11, 0)", y.narrow(11, 0), NONE);
        for (int c = 0; c < 10; c++) {
            y.hold(c, true);
        }
        Check.due("narrow(11, 0), the eleventh is left", y.narrow(11, 0), 10);
    }

    private static void narrowWayTooLong() {
        Check.part("promise 17, on all paths: a way of seven is none");
        TrustPaths x = Check.line(6);
        Check.link(x, 0, 7);
        Check.link(x, 7, 1);
        Check.due("narrow(5, 0), round it would be seven", x.narrow(5, 0), 0);
        Check.due("narrow(4, 0), round it is six", x.narrow(4, 0), 1);
        x.set(0, 1, 3);
        Check.due("narrow(4, 0), with a limit that is kept", x.narrow(4, 0), 1);
        x.set(6, 1, 3);
        Check.due("narrow(4, 0), with a limit that rules the long way out", x.narrow(4, 0), 0);
    }

    /** Two for the first place, and a last one that has one policy alone. */
    private static void twoWaysOfOnePolicy() {
        Check.part("promises 15 to 17, another way that has one policy alone");
        for (int p = 0; p < 4; p++) {
            for (int set = 1; set < 16; set++) {
                TrustPaths x = Check.line(2);
                Check.link(x, 0, 1);
                x.set(1, 4, 1 << p);
                x.set(2, 4, set);
                boolean other = (set >> p & 1) == 1;
                Check.due("narrow", x.narrow(1, 0), other ? NONE : 0, p, set);
                Check.due("depending(0, 0)", x.depending(0, 0), other ? 1 : 2, p, set);
                Check.due("depending(2, 0)", x.depending(2, 0), 1, p, set);
                x.times(0, 0, 49);
                x.times(2, 50, 100);
                Check.due("until", x.until(1, 0), other ? 100 : 49, p, set);
                Check.due("count", x.count(50), other ? 2 : 1, p, set);
                Check.due("step", x.step(1, 50, 0), other ? 2 : NONE, p, set);
            }
        }
    }
}
