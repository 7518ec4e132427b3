/** Each promise of the document by itself: ordinary inputs, the edges it names, wrong inputs. */
public final class PromiseTest {
    private static final int BAD = Check.BAD;
    private static final int NONE = Check.NONE;
    private static final int FULL = Check.FULL;
    private static final int[] NOT_TIMES = {-1, 101, Integer.MIN_VALUE, Integer.MAX_VALUE};

    public static void main(String[] args) {
        newObject();
        make();
        madeCertificate();
        times();
        set();
        revoke();
        hold();
        anchor();
        distrust();
        chain();
        longestPath();
        authority();
        limit();
        names();
        namesOfSelfIssued();
        commonPolicy();
        repeatedCertificates();
        trusted();
        length();
        step();
        bestPath();
        policies();
        count();
        keysOf();
        until();
        depending();
        narrow();
        wrongCertificatesAndTimes();
        questionsChangeNothing();
        eachPolicyAlone();
        twelveCertificates();
        exampleOfReadme();
        Check.end();
    }

    private static void newObject() {
        Check.part("promise 1, new");
        Check.due("BAD", TrustPaths.BAD, BAD);
        Check.due("NONE", TrustPaths.NONE, NONE);
        Check.due("FULL", TrustPaths.FULL, FULL);
        TrustPaths x = new TrustPaths();
        Check.due("count(0)", x.count(0), 0);
        Check.due("count(100)", x.count(100), 0);
        Check.due("trusted(0, 0)", x.trusted(0, 0), BAD);
        for (int a = 0; a < 3; a++) {
            Check.due("distrust(" + a + ")", x.distrust(a), NONE);
        }
        for (int name = 0; name < 8; name++) {
            Check.due("keysOf(" + name + ", 0, 0)", x.keysOf(name, 0, 0), 0);
        }
        Check.due("make(0, 0)", x.make(0, 0), 0);
        Check.due("trusted(0, 0) without anchors", x.trusted(0, 0), 0);
        Check.due("make of another object", new TrustPaths().make(0, 0), 0);
    }

    private static void make() {
        Check.part("promise 2, make");
        TrustPaths x = new TrustPaths();
        int[] notNames = {-1, 64, Integer.MIN_VALUE, Integer.MAX_VALUE};
        int[] notKeys = {-1, 100, Integer.MIN_VALUE, Integer.MAX_VALUE};
        for (int i = 0; i < 4; i++) {
            Check.due("make(" + notNames[i] + ", 0)", x.make(notNames[i], 0), BAD);
            Check.due("make(0, " + notKeys[i] + ")", x.make(0, notKeys[i]), BAD);
        }
        for (int n = 0; n < 12; n++) {
            Check.due("make number " + n, n % 2 == 0 ? x.make(63, 99) : x.make(0, 0), n);
            Check.due("certificate " + n, x.trusted(n, 0), 0);
            Check.due("certificate after " + n, x.trusted(n + 1, 0), BAD);
        }
        Check.due("make(0, 0), the thirteenth", x.make(0, 0), FULL);
        Check.due("make(63, 99), the thirteenth", x.make(63, 99), FULL);
        Check.due("make(64, 0), BAD before FULL", x.make(64, 0), BAD);
        Check.due("make(0, 100), BAD before FULL", x.make(0, 100), BAD);
        Check.due("certificate 12", x.trusted(12, 0), BAD);
        Check.due("certificate 11", x.trusted(11, 0), 0);
    }

    private static void madeCertificate() {
        Check.part("promise 2, what is made");
        TrustPaths x = new TrustPaths();
        Check.due("make(10, 34)", x.make(10, 34), 0);
        Check.due("anchor(0, 13)", x.anchor(0, 13), 0);
        Check.due("trusted(0, 0)", x.trusted(0, 0), 1);
        Check.due("trusted(0, 100)", x.trusted(0, 100), 1);
        for (int name = 0; name < 8; name++) {
            Check.due("keysOf(" + name + ", 50, 3)", x.keysOf(name, 50, 3), name == 2 ? 16 : 0);
        }
        Check.due("make(63, 99)", x.make(63, 99), 1);
        Check.due("anchor(1, 79)", x.anchor(1, 79), 0);
        Check.due("keysOf(7, 0, 0)", x.keysOf(7, 0, 0), 512);
        Check.due("authority", x.set(0, 0, 0), 1);
        Check.due("limit", x.set(0, 1, 0), 4);
        Check.due("allowed", x.set(0, 2, 0), 255);
        Check.due("barred", x.set(0, 3, 255), 0);
        Check.due("policies", x.set(0, 4, 0), 15);
        Check.due("revoked", x.revoke(0, 0), 0);
        Check.due("held", x.hold(0, false), 0);
        Check.due("the other's authority", x.set(1, 0, 1), 1);
    }

    private static void times() {
        Check.part("promise 3, times");
        TrustPaths x = Check.line(1);
        Check.due("times(0, 20, 40)", x.times(0, 20, 40), 0);
        x.times(1, 0, 100);
        Check.due("times(-1, 0, 100)", x.times(-1, 0, 100), BAD);
        Check.due("times(1, 0, 100)", x.times(1, 0, 100), BAD);
        Check.due("times(0, 41, 40)", x.times(0, 41, 40), BAD);
        for (int time : NOT_TIMES) {
            Check.due("times(0, " + time + ", 100)", x.times(0, time, 100), BAD);
            Check.due("times(0, 0, " + time + ")", x.times(0, 0, time), BAD);
        }
        Check.due("trusted(0, 19)", x.trusted(0, 19), 0);
        Check.due("trusted(0, 20)", x.trusted(0, 20), 1);
        Check.due("trusted(0, 40)", x.trusted(0, 40), 1);
        Check.due("trusted(0, 41)", x.trusted(0, 41), 0);
        Check.due("times(0, 30, 30)", x.times(0, 30, 30), 0);
        Check.due("trusted(0, 29)", x.trusted(0, 29), 0);
        Check.due("trusted(0, 30)", x.trusted(0, 30), 1);
        Check.due("trusted(0, 31)", x.trusted(0, 31), 0);
        Check.due("times(0, 0, 0)", x.times(0, 0, 0), 0);
        Check.due("trusted(0, 0)", x.trusted(0, 0), 1);
        Check.due("trusted(0, 1)", x.trusted(0, 1), 0);
        Check.due("times(0, 100, 100)", x.times(0, 100, 100), 0);
        Check.due("trusted(0, 100)", x.trusted(0, 100), 1);
        Check.due("trusted(0, 99)", x.trusted(0, 99), 0);
        TrustPaths y = Check.line(2);
        Check.due("times(0, 5, 10)", y.times(0, 5, 10), 0);
        Check.due("trusted(1, 4), issuer not yet good", y.trusted(1, 4), 0);
        Check.due("trusted(1, 5)", y.trusted(1, 5), 1);
        Check.due("trusted(1, 11), issuer no longer good", y.trusted(1, 11), 0);
    }

    private static void set() {
        Check.part("promise 4, set");
        TrustPaths x = Check.line(2);
        int[] greatest = {1, 4, 255, 255, 15};
        int[] atFirst = {1, 4, 255, 0, 15};
        for (int what = 0; what < 5; what++) {
            int[] not = {-1, greatest[what] + 1, Integer.MIN_VALUE, Integer.MAX_VALUE};
            for (int value : not) {
                Check.due("set(0, " + what + ", " + value + ")", x.set(0, what, value), BAD);
            }
            Check.due("set(0, " + what + ", 0)", x.set(0, what, 0), atFirst[what]);
            Check.due("set(0, " + what + ", most)", x.set(0, what, greatest[what]), 0);
            Check.due("set(2, " + what + ", 0)", x.set(2, what, 0), BAD);
            Check.due("set(-1, " + what + ", 0)", x.set(-1, what, 0), BAD);
            Check.due("set(0, " + what + ", 1)", x.set(0, what, 1), greatest[what]);
            Check.due("the other's " + what, x.set(1, what, atFirst[what]), atFirst[what]);
        }
        int[] notWhat = {-1, 5, Integer.MIN_VALUE, Integer.MAX_VALUE};
        for (int what : notWhat) {
            Check.due("set(0, " + what + ", 0)", x.set(0, what, 0), BAD);
        }
        for (int what = 0; what < 5; what++) {
            Check.due("set(0, " + what + ", 0) at the end", x.set(0, what, 0), 1);
        }
    }

    private static void revoke() {
        Check.part("promise 5, revoke");
        TrustPaths x = Check.line(2);
        Check.due("revoke(-1, 0)", x.revoke(-1, 0), BAD);
        Check.due("revoke(2, 0)", x.revoke(2, 0), BAD);
        for (int time : NOT_TIMES) {
            Check.due("revoke(0, " + time + ")", x.revoke(0, time), BAD);
        }
        Check.due("trusted(0, 100) after refusals", x.trusted(0, 100), 1);
        Check.due("revoke(0, 50)", x.revoke(0, 50), 0);
        Check.due("trusted(0, 49)", x.trusted(0, 49), 1);
        Check.due("trusted(0, 50)", x.trusted(0, 50), 0);
        Check.due("trusted(0, 100)", x.trusted(0, 100), 0);
        Check.due("trusted(1, 49)", x.trusted(1, 49), 1);
        Check.due("trusted(1, 50), issuer revoked", x.trusted(1, 50), 0);
        Check.due("revoke(0, 60)", x.revoke(0, 60), 1);
        Check.due("trusted(0, 59), the time before no longer counts", x.trusted(0, 59), 1);
        Check.due("trusted(0, 60)", x.trusted(0, 60), 0);
        Check.due("revoke(0, 0)", x.revoke(0, 0), 1);
        Check.due("trusted(0, 0)", x.trusted(0, 0), 0);
        Check.due("revoke(0, 100), was revoked from 0 on", x.revoke(0, 100), 1);
        Check.due("trusted(0, 99)", x.trusted(0, 99), 1);
        Check.due("trusted(0, 100)", x.trusted(0, 100), 0);
        Check.due("revoke(1, 100)", x.revoke(1, 100), 0);
        Check.due("revoke(1, 100) again", x.revoke(1, 100), 1);
    }

    private static void hold() {
        Check.part("promise 6, hold");
        TrustPaths x = Check.line(2);
        Check.due("hold(-1, true)", x.hold(-1, true), BAD);
        Check.due("hold(2, true)", x.hold(2, true), BAD);
        Check.due("hold(2, false)", x.hold(2, false), BAD);
        Check.due("hold(0, false)", x.hold(0, false), 0);
        Check.due("hold(0, true)", x.hold(0, true), 0);
        Check.due("trusted(0, 0)", x.trusted(0, 0), 0);
        Check.due("trusted(1, 100), issuer held", x.trusted(1, 100), 0);
        Check.due("hold(0, true) again", x.hold(0, true), 1);
        Check.due("hold(1, false)", x.hold(1, false), 0);
        Check.due("hold(0, false)", x.hold(0, false), 1);
        Check.due("hold(0, false) again", x.hold(0, false), 0);
        Check.due("trusted(1, 100)", x.trusted(1, 100), 1);
        Check.due("a new one where 2 was refused", x.make(0, 0), 2);
        Check.due("hold(2, false)", x.hold(2, false), 0);
    }

    private static void anchor() {
        Check.part("promise 7, anchor");
        TrustPaths x = new TrustPaths();
        x.make(0, 0);
        x.make(63, 99);
        int[] notAnchors = {-1, 3, Integer.MIN_VALUE, Integer.MAX_VALUE};
        int[] notEnds = {-1, 80, Integer.MIN_VALUE, Integer.MAX_VALUE};
        for (int i = 0; i < 4; i++) {
            Check.due("anchor(" + notAnchors[i] + ", 0)", x.anchor(notAnchors[i], 0), BAD);
            Check.due("anchor(0, " + notEnds[i] + ")", x.anchor(0, notEnds[i]), BAD);
        }
        Check.due("distrust(0) after refusals", x.distrust(0), NONE);
        for (int a = 0; a < 3; a++) {
            Check.due("anchor(" + a + ", 79)", x.anchor(a, 79), 0);
            Check.due("trusted(1, 0)", x.trusted(1, 0), 1);
            Check.due("anchor(" + a + ", 0)", x.anchor(a, 0), 1);
            Check.due("trusted(1, 0), anchor is another", x.trusted(1, 0), 0);
            Check.due("trusted(0, 0)", x.trusted(0, 0), 1);
            Check.due("anchor(" + a + ", 80)", x.anchor(a, 80), BAD);
            Check.due("trusted(0, 0) after a refusal", x.trusted(0, 0), 1);
            Check.due("distrust(" + a + ")", x.distrust(a), 0);
            Check.due("anchor(" + a + ", 5) after distrust", x.anchor(a, 5), 0);
        }
    }

    private static void distrust() {
        Check.part("promise 8, distrust");
        TrustPaths x = Check.line(2);
        Check.due("distrust(-1)", x.distrust(-1), BAD);
        Check.due("distrust(3)", x.distrust(3), BAD);
        Check.due("distrust(max)", x.distrust(Integer.MAX_VALUE), BAD);
        Check.due("distrust(1)", x.distrust(1), NONE);
        Check.due("distrust(2)", x.distrust(2), NONE);
        Check.due("trusted(1, 0) after refusals", x.trusted(1, 0), 1);
        x.anchor(2, 0);
        Check.due("distrust(0)", x.distrust(0), 0);
        Check.due("trusted(1, 0) by the other anchor", x.trusted(1, 0), 1);
        Check.due("distrust(2)", x.distrust(2), 0);
        Check.due("trusted(1, 0)", x.trusted(1, 0), 0);
        Check.due("trusted(0, 0)", x.trusted(0, 0), 0);
        Check.due("distrust(2) again", x.distrust(2), NONE);
    }

    private static void chain() {
        Check.part("terms, each is issued by the one before");
        TrustPaths x = new TrustPaths();
        x.anchor(0, 11);
        x.make(8 * 1 + 2, 12);
        Check.due("anchor's name and key", x.trusted(0, 0), 1);
        x.make(8 * 1 + 2, 22);
        Check.due("anchor's name, another key", x.trusted(1, 0), 0);
        x.make(8 * 3 + 2, 12);
        Check.due("another name, anchor's key", x.trusted(2, 0), 0);
        x.make(8 * 2 + 3, 23);
        Check.due("subject's name and key", x.trusted(3, 0), 1);
        x.make(8 * 2 + 3, 33);
        Check.due("subject's name, another key", x.trusted(4, 0), 0);
        x.make(8 * 4 + 3, 23);
        Check.due("another name, subject's key", x.trusted(5, 0), 0);
        Check.due("length(3, 0)", x.length(3, 0), 2);
    }

    private static void longestPath() {
        Check.part("terms, one to six certificates");
        TrustPaths x = Check.line(7);
        for (int c = 0; c < 6; c++) {
            Check.due("trusted(" + c + ", 0)", x.trusted(c, 0), 1);
            Check.due("length(" + c + ", 0)", x.length(c, 0), c + 1);
        }
        Check.due("trusted(6, 0), the seventh", x.trusted(6, 0), 0);
        Check.due("length(6, 0)", x.length(6, 0), NONE);
        x.anchor(1, 11);
        Check.due("trusted(6, 0) by a later anchor", x.trusted(6, 0), 1);
        Check.due("step(6, 0, 0)", x.step(6, 0, 0), 1);
    }

    private static void authority() {
        Check.part("terms, each but the last is an authority");
        TrustPaths x = Check.line(3);
        Check.due("set(1, 0, 0)", x.set(1, 0, 0), 1);
        Check.due("trusted(0, 0)", x.trusted(0, 0), 1);
        Check.due("trusted(1, 0), the last needs not be", x.trusted(1, 0), 1);
        Check.due("trusted(2, 0)", x.trusted(2, 0), 0);
        Check.due("set(1, 0, 1)", x.set(1, 0, 1), 0);
        Check.due("trusted(2, 0)", x.trusted(2, 0), 1);
    }

    private static void limit() {
        Check.part("terms, limit");
        for (int most = 0; most < 5; most++) {
            TrustPaths x = Check.line(6);
            x.set(0, 1, most);
            for (int c = 0; c < 6; c++) {
                int between = c - 1;
                Check.due("limit " + most + ", trusted(" + c + ", 0)", x.trusted(c, 0), between <= most ? 1 : 0);
            }
        }
        TrustPaths inner = Check.line(6);
        inner.set(2, 1, 1);
        Check.due("inner limit 1, one between", inner.trusted(4, 0), 1);
        Check.due("inner limit 1, two between", inner.trusted(5, 0), 0);
        inner.set(3, 1, 4);
        Check.due("a later limit does not widen", inner.trusted(5, 0), 0);
        TrustPaths own = new TrustPaths();
        own.anchor(0, 0);
        own.make(8 * 0 + 1, 1);
        own.make(8 * 1 + 1, 12);
        own.make(8 * 1 + 1, 23);
        own.make(8 * 1 + 2, 34);
        own.make(8 * 2 + 3, 45);
        own.set(0, 1, 0);
        Check.due("limit 0, self-issued do not count", own.trusted(3, 0), 1);
        Check.due("limit 0, one that is not self-issued", own.trusted(4, 0), 0);
        own.set(0, 1, 1);
        Check.due("limit 1, one that is not self-issued", own.trusted(4, 0), 1);
        own.set(1, 1, 0);
        Check.due("limit 0 of a self-issued one", own.trusted(4, 0), 0);
        Check.due("limit 0 of a self-issued one, none between", own.trusted(3, 0), 1);
    }

    private static void names() {
        Check.part("terms, allowed and barred names");
        TrustPaths x = Check.line(3);
        x.set(0, 2, 255 - 8);
        Check.due("name 3 not allowed by the first", x.trusted(2, 0), 0);
        Check.due("name 2 allowed", x.trusted(1, 0), 1);
        x.set(0, 2, 8);
        Check.due("name 2 on the way not allowed", x.trusted(2, 0), 0);
        x.set(0, 2, 12);
        Check.due("own name needs not be allowed by itself", x.trusted(0, 0), 1);
        Check.due("names 2 and 3 allowed", x.trusted(2, 0), 1);
        x.set(1, 2, 4);
        Check.due("name 3 not allowed by the second", x.trusted(2, 0), 0);
        x.set(1, 2, 255);
        x.set(0, 3, 8);
        Check.due("allowed and barred", x.trusted(2, 0), 0);
        x.set(0, 3, 4);
        Check.due("name 2 on the way barred", x.trusted(2, 0), 0);
        x.set(0, 3, 255 - 12);
        Check.due("others barred", x.trusted(2, 0), 1);
        x.set(1, 3, 8);
        Check.due("name 3 barred by the second", x.trusted(2, 0), 0);
        x.set(1, 3, 0);
        x.set(2, 2, 0);
        x.set(2, 3, 255);
        Check.due("the last one's own names do not count", x.trusted(2, 0), 1);
    }

    private static void namesOfSelfIssued() {
        Check.part("terms, names of self-issued ones");
        TrustPaths x = new TrustPaths();
        x.anchor(0, 0);
        x.make(8 * 0 + 1, 1);
        x.make(8 * 1 + 1, 12);
        x.make(8 * 1 + 2, 23);
        x.set(0, 3, 2);
        Check.due("self-issued on the way", x.trusted(2, 0), 1);
        Check.due("self-issued as the last", x.trusted(1, 0), 0);
        x.set(0, 3, 0);
        x.set(0, 2, 255 - 2);
        Check.due("self-issued on the way, not allowed", x.trusted(2, 0), 1);
        Check.due("self-issued as the last, not allowed", x.trusted(1, 0), 0);
        x.set(0, 2, 255);
        x.set(1, 3, 4);
        Check.due("names barred by a self-issued one", x.trusted(2, 0), 0);
    }

    private static void commonPolicy() {
        Check.part("terms, some policy is common");
        TrustPaths x = Check.line(3);
        x.set(0, 4, 3);
        x.set(1, 4, 6);
        x.set(2, 4, 12);
        Check.due("trusted(1, 0)", x.trusted(1, 0), 1);
        Check.due("trusted(2, 0), in pairs only", x.trusted(2, 0), 0);
        x.set(2, 4, 2);
        Check.due("trusted(2, 0)", x.trusted(2, 0), 1);
        x.set(2, 4, 0);
        Check.due("trusted(2, 0), no policies", x.trusted(2, 0), 0);
        x.set(0, 4, 0);
        Check.due("trusted(0, 0), one without policies", x.trusted(0, 0), 0);
    }

    private static void repeatedCertificates() {
        Check.part("terms, ways in a ring");
        TrustPaths x = new TrustPaths();
        x.anchor(0, 0);
        Check.link(x, 0, 1);
        Check.link(x, 1, 2);
        Check.link(x, 2, 1);
        Check.link(x, 2, 3);
        Check.due("length(3, 0)", x.length(3, 0), 3);
        Check.due("narrow(3, 0)", x.narrow(3, 0), 0);
        Check.due("narrow(2, 0)", x.narrow(2, 0), 0);
        Check.due("narrow(1, 0)", x.narrow(1, 0), 0);
        Check.due("depending(2, 0)", x.depending(2, 0), 1);
        x.make(0, 0);
        Check.due("narrow(4, 0), a ring of one", x.narrow(4, 0), NONE);
        Check.due("length(4, 0)", x.length(4, 0), 1);
        x.hold(0, true);
        Check.due("a ring without an anchor", x.trusted(1, 0), 0);
        for (int c = 5; c < 12; c++) {
            x.make(0, 0);
        }
        Check.due("a ring of eight", x.count(0), 8);
        Check.due("no way out of the ring", x.trusted(3, 0), 0);
    }

    private static void trusted() {
        Check.part("promise 9, trusted");
        TrustPaths x = Check.line(2);
        Check.link(x, 5, 6);
        Check.due("trusted(1, 50)", x.trusted(1, 50), 1);
        Check.due("trusted(2, 50), no anchor leads to it", x.trusted(2, 50), 0);
        x.anchor(1, 55);
        Check.due("trusted(2, 50), by the second anchor", x.trusted(2, 50), 1);
    }

    private static void length() {
        Check.part("promise 10, length");
        TrustPaths x = Check.line(4);
        Check.due("length(0, 0)", x.length(0, 0), 1);
        Check.due("length(3, 0)", x.length(3, 0), 4);
        Check.link(x, 1, 3);
        Check.due("length(3, 0) with a shorter way", x.length(3, 0), 3);
        x.times(4, 10, 20);
        Check.due("length(3, 9)", x.length(3, 9), 4);
        Check.due("length(3, 10)", x.length(3, 10), 3);
        x.hold(0, true);
        Check.due("length(3, 10), no path", x.length(3, 10), NONE);
    }

    private static void step() {
        Check.part("promise 11, step");
        TrustPaths x = Check.line(6);
        for (int i = 0; i < 6; i++) {
            Check.due("step(5, 0, " + i + ")", x.step(5, 0, i), i);
        }
        Check.due("step(5, 0, 6)", x.step(5, 0, 6), NONE);
        Check.due("step(5, 0, -1)", x.step(5, 0, -1), NONE);
        Check.due("step(5, 0, max)", x.step(5, 0, Integer.MAX_VALUE), NONE);
        Check.due("step(5, 0, min)", x.step(5, 0, Integer.MIN_VALUE), NONE);
        Check.due("step(2, 0, 3)", x.step(2, 0, 3), NONE);
        Check.due("step(2, 0, 2)", x.step(2, 0, 2), 2);
        x.hold(2, true);
        Check.due("step(2, 0, 0), no path", x.step(2, 0, 0), NONE);
        Check.due("step(5, 0, 0), no path", x.step(5, 0, 0), NONE);
    }

    private static void bestPath() {
        Check.part("terms, the best path");
        TrustPaths x = new TrustPaths();
        x.anchor(0, 0);
        Check.link(x, 2, 3);
        Check.link(x, 0, 4);
        Check.link(x, 4, 3);
        Check.link(x, 0, 2);
        Check.link(x, 3, 5);
        Check.due("the lesser first one, step 0", x.step(4, 0, 0), 1);
        Check.due("the lesser first one, step 1", x.step(4, 0, 1), 2);
        Check.due("the lesser first one, step 2", x.step(4, 0, 2), 4);
        x.set(1, 3, 32);
        Check.due("the other way, step 0", x.step(4, 0, 0), 3);
        Check.due("the other way, step 1", x.step(4, 0, 1), 0);
        Check.link(x, 0, 3);
        Check.due("fewer, step 0", x.step(4, 0, 0), 5);
        Check.due("fewer, step 1", x.step(4, 0, 1), 4);
        TrustPaths y = Check.line(1);
        Check.link(y, 1, 2);
        Check.link(y, 1, 2);
        Check.link(y, 2, 3);
        Check.due("differing at the second place", y.step(3, 0, 1), 1);
        y.set(1, 4, 1);
        y.set(3, 4, 2);
        Check.due("differing at the second place, policy", y.step(3, 0, 1), 2);
    }

    private static void policies() {
        Check.part("promise 12, policies");
        TrustPaths x = Check.line(2);
        Check.due("policies(1, 0)", x.policies(1, 0), 15);
        x.set(0, 4, 3);
        x.set(1, 4, 14);
        Check.due("policies(0, 0)", x.policies(0, 0), 3);
        Check.due("policies(1, 0)", x.policies(1, 0), 2);
        Check.link(x, 0, 1);
        x.set(2, 4, 12);
        Check.due("policies(1, 0) of two paths", x.policies(1, 0), 14);
        x.times(2, 10, 20);
        Check.due("policies(1, 9)", x.policies(1, 9), 2);
        Check.due("policies(1, 20)", x.policies(1, 20), 14);
        x.set(1, 4, 0);
        Check.due("policies(1, 20), no path", x.policies(1, 20), 0);
        TrustPaths longer = Check.line(2);
        longer.set(1, 4, 1);
        Check.link(longer, 2, 3);
        Check.link(longer, 1, 4);
        Check.link(longer, 4, 2);
        Check.due("policies(2, 0), a longer path has more", longer.policies(2, 0), 15);
        longer.set(4, 3, 8);
        Check.due("policies(2, 0), the longer path is barred", longer.policies(2, 0), 1);
    }

    private static void count() {
        Check.part("promise 13, count");
        TrustPaths x = Check.line(7);
        Check.due("count(0)", x.count(0), 6);
        x.times(3, 10, 20);
        Check.due("count(9)", x.count(9), 3);
        Check.due("count(10)", x.count(10), 6);
        Check.due("count(20)", x.count(20), 6);
        Check.due("count(21)", x.count(21), 3);
        for (int time : NOT_TIMES) {
            Check.due("count(" + time + ")", x.count(time), BAD);
        }
        x.distrust(0);
        Check.due("count(15)", x.count(15), 0);
    }

    private static void keysOf() {
        Check.part("promise 14, keysOf");
        TrustPaths x = new TrustPaths();
        x.anchor(0, 0);
        x.make(3, 4);
        x.make(3, 9);
        x.make(3, 0);
        x.make(2, 5);
        Check.due("keysOf(3, 0, 0)", x.keysOf(3, 0, 0), 16 + 512 + 1);
        Check.due("keysOf(2, 0, 3)", x.keysOf(2, 0, 3), 32);
        Check.due("keysOf(0, 0, 0), the anchor's name", x.keysOf(0, 0, 0), 0);
        x.set(0, 4, 2);
        Check.due("keysOf(3, 0, 0)", x.keysOf(3, 0, 0), 512 + 1);
        Check.due("keysOf(3, 0, 1)", x.keysOf(3, 0, 1), 16 + 512 + 1);
        x.times(1, 50, 60);
        Check.due("keysOf(3, 49, 1)", x.keysOf(3, 49, 1), 16 + 1);
        Check.due("keysOf(3, 60, 1)", x.keysOf(3, 60, 1), 16 + 512 + 1);
        x.make(8 * 3 + 2, 46);
        Check.due("keysOf(2, 0, 0), policy not on the way", x.keysOf(2, 0, 0), 32);
        Check.due("keysOf(2, 0, 1), policy on the way", x.keysOf(2, 0, 1), 32 + 64);
        Check.due("keysOf(2, 0, 2)", x.keysOf(2, 0, 2), 32);
        int[] notNames = {-1, 8, Integer.MIN_VALUE, Integer.MAX_VALUE};
        int[] notPolicies = {-1, 4, Integer.MIN_VALUE, Integer.MAX_VALUE};
        for (int i = 0; i < 4; i++) {
            Check.due("keysOf(" + notNames[i] + ", 0, 0)", x.keysOf(notNames[i], 0, 0), BAD);
            Check.due("keysOf(0, " + NOT_TIMES[i] + ", 0)", x.keysOf(0, NOT_TIMES[i], 0), BAD);
            Check.due("keysOf(0, 0, " + notPolicies[i] + ")", x.keysOf(0, 0, notPolicies[i]), BAD);
        }
        Check.due("keysOf(7, 100, 3)", x.keysOf(7, 100, 3), 0);
    }

    private static void until() {
        Check.part("promise 15, until");
        TrustPaths x = Check.line(2);
        Check.due("until(1, 0)", x.until(1, 0), 100);
        Check.due("until(1, 100)", x.until(1, 100), 100);
        x.times(0, 10, 30);
        Check.due("until(1, 9)", x.until(1, 9), NONE);
        Check.due("until(1, 10)", x.until(1, 10), 30);
        Check.due("until(1, 30)", x.until(1, 30), 30);
        Check.due("until(1, 31)", x.until(1, 31), NONE);
        Check.link(x, 0, 1);
        x.times(2, 31, 50);
        Check.due("until(1, 10), by another path from 31 on", x.until(1, 10), 50);
        x.times(2, 32, 50);
        Check.due("until(1, 10), a gap at 31", x.until(1, 10), 30);
        Check.due("until(1, 32)", x.until(1, 32), 50);
        x.revoke(1, 40);
        Check.due("until(1, 32), revoked", x.until(1, 32), 39);
        x.hold(1, true);
        Check.due("until(1, 32), held", x.until(1, 32), NONE);
    }

    private static void depending() {
        Check.part("promise 16, depending");
        TrustPaths x = Check.line(4);
        for (int c = 0; c < 4; c++) {
            Check.due("depending(" + c + ", 0)", x.depending(c, 0), 4 - c);
        }
        Check.link(x, 1, 3);
        Check.due("depending(1, 0), another way goes round", x.depending(1, 0), 2);
        Check.due("depending(4, 0)", x.depending(4, 0), 1);
        Check.due("depending(0, 0)", x.depending(0, 0), 5);
        x.hold(1, true);
        Check.due("depending(1, 0), held already", x.depending(1, 0), 0);
        Check.due("depending(0, 0)", x.depending(0, 0), 3);
        Check.due("hold(1, false), it is still held", x.hold(1, false), 1);
        Check.due("hold(0, false), it was not held", x.hold(0, false), 0);
        x.times(0, 0, 10);
        Check.due("depending(0, 11)", x.depending(0, 11), 0);
        x.set(3, 0, 0);
        Check.due("depending(3, 10), not an authority", x.depending(3, 10), 1);
    }

    private static void narrow() {
        Check.part("promise 17, narrow");
        TrustPaths x = Check.line(3);
        Check.due("narrow(0, 0), T itself does not count", x.narrow(0, 0), NONE);
        Check.due("narrow(1, 0)", x.narrow(1, 0), 0);
        Check.due("narrow(2, 0)", x.narrow(2, 0), 0);
        Check.link(x, 0, 1);
        Check.due("narrow(2, 0), two for the first place", x.narrow(2, 0), 1);
        Check.due("narrow(1, 0), two for the first place", x.narrow(1, 0), NONE);
        Check.link(x, 0, 2);
        Check.due("narrow(2, 0), a way round", x.narrow(2, 0), NONE);
        x.times(4, 50, 60);
        Check.due("narrow(2, 49)", x.narrow(2, 49), 1);
        Check.due("narrow(2, 50)", x.narrow(2, 50), NONE);
        x.hold(2, true);
        Check.due("narrow(2, 49), not trusted", x.narrow(2, 49), NONE);
        TrustPaths y = new TrustPaths();
        y.anchor(0, 0);
        Check.link(y, 2, 3);
        Check.link(y, 1, 2);
        Check.link(y, 0, 1);
        Check.due("narrow(0, 0), the least number is later on the path", y.narrow(0, 0), 1);
        Check.due("narrow(1, 0)", y.narrow(1, 0), 2);
    }

    private static void wrongCertificatesAndTimes() {
        Check.part("promises 9 to 17, wrong inputs");
        TrustPaths x = Check.line(2);
        int[] notCertificates = {-1, 2, 12, Integer.MIN_VALUE, Integer.MAX_VALUE};
        for (int c : notCertificates) {
            refused(x, c, 0);
        }
        for (int time : NOT_TIMES) {
            refused(x, 0, time);
        }
        x.distrust(0);
        refused(x, 2, 0);
        refused(x, 0, 101);
    }

    private static void refused(TrustPaths x, int c, int time) {
        String arguments = "(" + c + ", " + time + ")";
        Check.due("trusted" + arguments, x.trusted(c, time), BAD);
        Check.due("length" + arguments, x.length(c, time), BAD);
        Check.due("step" + arguments, x.step(c, time, 0), BAD);
        Check.due("step, i is wrong too" + arguments, x.step(c, time, -1), BAD);
        Check.due("policies" + arguments, x.policies(c, time), BAD);
        Check.due("until" + arguments, x.until(c, time), BAD);
        Check.due("depending" + arguments, x.depending(c, time), BAD);
        Check.due("narrow" + arguments, x.narrow(c, time), BAD);
    }

    private static void questionsChangeNothing() {
        Check.part("terms, questions change nothing");
        TrustPaths x = Check.line(6);
        Check.link(x, 0, 3);
        for (int round = 0; round < 3; round++) {
            Check.due("length(5, 0)", x.length(5, 0), 4);
            Check.due("step(5, 0, 0)", x.step(5, 0, 0), 6);
            Check.due("policies(5, 0)", x.policies(5, 0), 15);
            Check.due("narrow(5, 0)", x.narrow(5, 0), 3);
            Check.due("depending(0, 0)", x.depending(0, 0), 3);
            Check.due("until(5, 0)", x.until(5, 0), 100);
            Check.due("keysOf(6, 0, 0)", x.keysOf(6, 0, 0), 64);
            Check.due("count(0)", x.count(0), 7);
        }
    }

    private static void eachPolicyAlone() {
        Check.part("promises 9 to 17, one common policy");
        for (int p = 0; p < 4; p++) {
            TrustPaths x = Check.line(3);
            x.set(1, 4, 1 << p);
            Check.due("trusted(2, 0)", x.trusted(2, 0), 1);
            Check.due("length(2, 0)", x.length(2, 0), 3);
            Check.due("step(2, 0, 1)", x.step(2, 0, 1), 1);
            Check.due("policies(2, 0)", x.policies(2, 0), 1 << p);
            Check.due("count(0)", x.count(0), 3);
            Check.due("until(2, 0)", x.until(2, 0), 100);
            Check.due("depending(1, 0)", x.depending(1, 0), 2);
            Check.due("narrow(2, 0)", x.narrow(2, 0), 0);
            for (int asked = 0; asked < 4; asked++) {
                Check.due("keysOf(3, 0, " + asked + ")", x.keysOf(3, 0, asked), asked == p ? 8 : 0);
            }
        }
    }

    /** Twelve that all follow each other: the most lists that a search can meet. */
    private static void twelveCertificates() {
        Check.part("twelve certificates");
        TrustPaths x = new TrustPaths();
        x.anchor(2, 0);
        for (int c = 0; c < 11; c++) {
            x.make(0, 0);
        }
        Check.due("make(1, 3)", x.make(1, 3), 11);
        Check.due("length(11, 0), of another key", x.length(11, 0), 1);
        Check.due("count(0)", x.count(0), 12);
        Check.due("keysOf(1, 0, 3)", x.keysOf(1, 0, 3), 8);
        Check.due("narrow(11, 0)", x.narrow(11, 0), NONE);
        Check.due("depending(11, 0)", x.depending(11, 0), 1);
        x.anchor(2, 1);
        Check.due("count(0), no anchor leads in", x.count(0), 0);
        x = new TrustPaths();
        x.anchor(0, 0);
        for (int c = 0; c < 11; c++) {
            x.make(0, 0);
        }
        x.make(1, 13);
        Check.due("trusted(11, 0), all lists end before it", x.trusted(11, 0), 0);
        Check.due("until(11, 0)", x.until(11, 0), NONE);
        Check.due("policies(11, 0)", x.policies(11, 0), 0);
        Check.due("step(11, 0, 0)", x.step(11, 0, 0), NONE);
        Check.due("narrow(10, 0)", x.narrow(10, 0), NONE);
        Check.due("depending(10, 0)", x.depending(10, 0), 1);
        Check.due("count(100)", x.count(100), 11);
    }

    private static void exampleOfReadme() {
        Check.part("the example of README.md");
        TrustPaths x = new TrustPaths();
        x.anchor(0, 10 * 1 + 4);
        int ca = x.make(8 * 1 + 2, 45);
        int end = x.make(8 * 2 + 3, 56);
        x.times(ca, 10, 60);
        Check.due("trusted(end, 20)", x.trusted(end, 20), 1);
        Check.due("length(end, 20)", x.length(end, 20), 2);
        Check.due("step(end, 20, 0)", x.step(end, 20, 0), ca);
        Check.due("until(end, 20)", x.until(end, 20), 60);
        Check.due("narrow(end, 20)", x.narrow(end, 20), ca);
        Check.due("keysOf(3, 20, 0)", x.keysOf(3, 20, 0), 64);
        Check.due("trusted(end, 61)", x.trusted(end, 61), 0);
    }
}
