/**
 * "What it is" and "Terms", sentence by sentence in the document's order, each with what would be
 * answered if it did not hold. PathTest has every case of the rules of a path, UnchangedTest every
 * kind of call that changes nothing.
 */
public final class TermsTest {
    private static final int BAD = Check.BAD;
    private static final int NONE = Check.NONE;
    private static final int FULL = Check.FULL;
    private static final int MOST_CALLS = 512;

    public static void main(String[] args) {
        calls();
        namesAndKeys();
        certificate();
        whatACertificateHas();
        twelve();
        selfIssued();
        revokedOrHeld();
        anchors();
        listOfOneToSix();
        linked();
        goodNotRevokedNotHeld();
        authorities();
        limits();
        names();
        policies();
        trusted();
        best();
        orderOfTests();
        whatIsGood();
        refusedCalls();
        questions();
        Check.end();
    }

    private static void calls() {
        Check.part("An object is used for at most 512 calls after it has been made; what later calls answer is free.");
        TrustPaths x = new TrustPaths();
        Check.due("anchor, call 1", x.anchor(0, 0), 0);
        Check.due("make, call 2", Check.link(x, 0, 1), 0);
        boolean held = false;
        for (int call = 3; call < MOST_CALLS; call += 2) {
            Check.due("hold", x.hold(0, !held), held ? 1 : 0, call);
            held = !held;
            Check.due("trusted", x.trusted(0, call % 101), held ? 0 : 1, call + 1);
        }
    }

    private static void namesAndKeys() {
        Check.part("There are NAMES 0 .. 7 and KEYS 0 .. 9.");
        for (int name = 0; name < 8; name++) {
            for (int key = 0; key < 10; key++) {
                TrustPaths x = new TrustPaths();
                x.anchor(0, 10 * name + key);
                Check.due("make, as subject", x.make(8 * (7 - name) + name, 10 * (9 - key) + key), 0, name, key);
                Check.due("make, as issuer", x.make(8 * name + 7 - name, 10 * key + 9 - key), 1, name, key);
                Check.due("keysOf", x.keysOf(name, 0, 0), 1 << key, name, key);
                Check.due("keysOf", x.keysOf(7 - name, 0, 0), 1 << 9 - key, name, key);
            }
        }
        TrustPaths x = new TrustPaths();
        Check.due("issuer 8", x.make(8 * 8, 0), BAD);
        Check.due("issuer key 10", x.make(0, 10 * 10), BAD);
        Check.due("anchor of name 8", x.anchor(0, 10 * 8), BAD);
        Check.due("keysOf name 8", x.keysOf(8, 0, 0), BAD);
        Check.due("keysOf name -1", x.keysOf(-1, 0, 0), BAD);
    }

    private static void certificate() {
        Check.part("A CERTIFICATE says that a SUBJECT name has a SUBJECT key; it has an ISSUER name,"
            + " and an issuer key with which it is signed.");
        TrustPaths x = new TrustPaths();
        x.make(8 * 1 + 2, 10 * 3 + 4);
        int trustedBy = 0;
        for (int ends = 0; ends < 80; ends++) {
            x.anchor(0, ends);
            trustedBy += x.trusted(0, 0);
            Check.due("trusted", x.trusted(0, 0), ends == 13 ? 1 : 0, ends);
            Check.due("keysOf(2, 0, 0)", x.keysOf(2, 0, 0), ends == 13 ? 16 : 0, ends);
            Check.due("keysOf(1, 0, 0)", x.keysOf(1, 0, 0), 0, ends);
        }
        Check.due("anchors that lead to it", trustedBy, 1);
    }

    private static void whatACertificateHas() {
        Check.part("It is good FROM a time TO a time (0 .. 100 each, from <= to), it may be an AUTHORITY or not,"
            + " has a LIMIT 0 .. 4 (4: none), sets of ALLOWED and of BARRED names (bits 0 .. 255), and a set of"
            + " POLICIES (bits 0 .. 15).");
        TrustPaths x = Check.line(1);
        Check.due("times 0 100", x.times(0, 0, 100), 0);
        Check.due("times 0 0", x.times(0, 0, 0), 0);
        Check.due("times 100 100", x.times(0, 100, 100), 0);
        Check.due("times 51 50", x.times(0, 51, 50), BAD);
        Check.due("times -1 0", x.times(0, -1, 0), BAD);
        Check.due("times 100 101", x.times(0, 100, 101), BAD);
        int[] most = {1, 4, 255, 255, 15};
        for (int what = 0; what < 5; what++) {
            x.set(0, what, 0);
            for (int value = 1; value <= most[what]; value++) {
                Check.due("set", x.set(0, what, value), value - 1, what, value);
            }
            Check.due("set, too great", x.set(0, what, most[what] + 1), BAD, what);
            Check.due("set, too small", x.set(0, what, -1), BAD, what);
        }
        TrustPaths y = Check.line(6);
        Check.due("set limit 4", y.set(0, 1, 4), 4);
        Check.due("limit 4 is none", y.trusted(5, 0), 1);
        Check.due("set limit 3", y.set(0, 1, 3), 4);
        Check.due("limit 3 is one", y.trusted(5, 0), 0);
    }

    private static void twelve() {
        Check.part("At most twelve certificates are ever made; they have the numbers 0, 1, .. in their order.");
        TrustPaths x = new TrustPaths();
        for (int c = 0; c < 12; c++) {
            Check.due("hold before make", x.hold(c, true), BAD, c);
            Check.due("make", x.make(63 - c, 99 - c), c);
            Check.due("hold after make", x.hold(c, true), 0, c);
            Check.due("revoke", x.revoke(c, 0), 0, c);
        }
        Check.due("make, one more", x.make(0, 0), FULL);
        Check.due("hold, one more", x.hold(12, true), BAD);
    }

    /** Three in a line, the middle one as said; the first has limit 0 and bars the middle one's name. */
    private static TrustPaths around(int issuer, int subject, int keys) {
        TrustPaths x = new TrustPaths();
        x.anchor(0, 0);
        x.make(issuer, keys / 10);
        x.make(8 * issuer + subject, keys);
        x.make(8 * subject + 7, 10 * (keys % 10) + 7);
        x.set(0, 1, 0);
        x.set(0, 3, 1 << subject);
        return x;
    }

    private static void selfIssued() {
        Check.part("A certificate is SELF-ISSUED if its issuer name is its subject name.");
        for (int name = 1; name < 7; name++) {
            Check.due("same name, same key", around(name, name, 55).trusted(2, 0), 1, name);
            Check.due("same name, another key", around(name, name, 56).trusted(2, 0), 1, name);
            Check.due("another name, same key", around(name, name - 1, 55).trusted(2, 0), 0, name);
            Check.due("another name, another key", around(name, name - 1, 56).trusted(2, 0), 0, name);
        }
    }

    private static void revokedOrHeld() {
        Check.part("It may be REVOKED from a time on; or HELD, which can be ended.");
        TrustPaths x = Check.line(1);
        Check.due("revoke", x.revoke(0, 40), 0);
        Check.due("trusted(0, 39)", x.trusted(0, 39), 1);
        Check.due("trusted(0, 40)", x.trusted(0, 40), 0);
        Check.due("trusted(0, 100)", x.trusted(0, 100), 0);
        Check.due("hold", x.hold(0, true), 0);
        Check.due("trusted(0, 0), held", x.trusted(0, 0), 0);
        Check.due("trusted(0, 39), held", x.trusted(0, 39), 0);
        Check.due("hold, ended", x.hold(0, false), 1);
        Check.due("trusted(0, 39), hold ended", x.trusted(0, 39), 1);
        Check.due("trusted(0, 40), still revoked", x.trusted(0, 40), 0);
    }

    private static void anchors() {
        Check.part("At most three ANCHORS 0 .. 2 are trusted, each a name with a key.");
        TrustPaths x = new TrustPaths();
        for (int a = 0; a < 3; a++) {
            x.make(8 * a + 7, 10 * (a + 4));
            x.make(8 * a + 7, 10 * (a + 5));
            Check.due("anchor", x.anchor(a, 10 * a + a + 4), 0, a);
        }
        for (int a = 0; a < 3; a++) {
            Check.due("name and key", x.trusted(2 * a, 0), 1, a);
            Check.due("the name alone", x.trusted(2 * a + 1, 0), 0, a);
        }
        Check.due("anchor 3", x.anchor(3, 0), BAD);
        Check.due("anchor -1", x.anchor(-1, 0), BAD);
        Check.due("distrust 3", x.distrust(3), BAD);
        Check.due("distrust -1", x.distrust(-1), BAD);
        Check.due("anchor 1, another end", x.anchor(1, 16), 1);
        Check.due("the new end", x.trusted(3, 0), 1);
        Check.due("the old end", x.trusted(2, 0), 0);
        Check.due("count", x.count(0), 3);
    }

    private static void listOfOneToSix() {
        Check.part("A PATH to a certificate T at a time t is a list of one to six certificates, the last of which is T,"
            + " for which there is an anchor, so that:");
        TrustPaths x = Check.line(7);
        for (int c = 0; c < 7; c++) {
            Check.due("trusted", x.trusted(c, 0), c < 6 ? 1 : 0, c);
            Check.due("step, the last", x.step(c, 0, c), c < 6 ? c : NONE, c);
        }
        x.anchor(1, 11);
        Check.due("trusted, six after the second anchor", x.trusted(6, 0), 1);
        x.distrust(0);
        Check.due("trusted, without its anchor", x.trusted(0, 0), 0);
        x.distrust(1);
        Check.due("count, without anchors", x.count(0), 0);
    }

    private static void linked() {
        Check.part("the first one has the anchor's name and key as issuer name and key, and every other one has the"
            + " subject name and key of the one before it as issuer name and key;");
        for (int place = 0; place < 6; place++) {
            for (int wrong = 0; wrong < 3; wrong++) {
                TrustPaths x = new TrustPaths();
                x.anchor(0, 0);
                for (int c = 0; c < 6; c++) {
                    int name = c == place && wrong == 1 ? 7 : c;
                    int key = c == place && wrong == 2 ? 7 : c;
                    x.make(8 * name + c + 1, 10 * key + c + 1);
                }
                Check.due("count", x.count(0), wrong == 0 ? 6 : place, place, wrong);
            }
        }
    }

    private static void goodNotRevokedNotHeld() {
        Check.part("each is good at t (from <= t <= to), is not revoked at t, and is not held;");
        for (int place = 0; place < 6; place++) {
            TrustPaths x = Check.line(6);
            x.times(place, 20, 30);
            Check.due("count(19)", x.count(19), place, place);
            Check.due("count(20)", x.count(20), 6, place);
            Check.due("count(30)", x.count(30), 6, place);
            Check.due("count(31)", x.count(31), place, place);
            x.revoke(place, 25);
            Check.due("count(24), revoked from 25 on", x.count(24), 6, place);
            Check.due("count(25), revoked from 25 on", x.count(25), place, place);
            Check.due("count(26), revoked from 25 on", x.count(26), place, place);
            x.hold(place, true);
            Check.due("count(24), held", x.count(24), place, place);
        }
    }

    private static void authorities() {
        Check.part("each but the last is an authority;");
        for (int place = 0; place < 6; place++) {
            TrustPaths x = Check.line(6);
            x.set(place, 0, 0);
            for (int c = 0; c < 6; c++) {
                Check.due("trusted", x.trusted(c, 0), c <= place ? 1 : 0, place, c);
            }
        }
    }

    private static void limits() {
        Check.part("for each with a limit below 4, at most so many of those that come after it, the last one not"
            + " counted, are not self-issued;");
        for (int place = 0; place < 6; place++) {
            for (int limit = 0; limit <= 4; limit++) {
                TrustPaths x = Check.line(6);
                x.set(place, 1, limit);
                int reach = limit == 4 ? 6 : Math.min(6, place + limit + 2);
                Check.due("count", x.count(0), reach, place, limit);
            }
        }
        TrustPaths x = new TrustPaths();
        x.anchor(0, 0);
        x.make(1, 1);
        for (int c = 1; c < 5; c++) {
            x.make(8 * 1 + 1, 10 * c + c + 1);
        }
        x.make(8 * 1 + 2, 56);
        x.set(0, 1, 0);
        Check.due("limit 0, four that are self-issued, and the last one", x.trusted(5, 0), 1);
        Check.due("limit 0, a last one that is self-issued", x.trusted(4, 0), 1);
        x.make(8 * 2 + 3, 67);
        x.set(1, 0, 0);
        x.anchor(1, 12);
        x.set(2, 1, 1);
        Check.due("limit 1, two that are self-issued, one that is not, and the last one", x.trusted(6, 0), 1);
        x.set(2, 1, 0);
        Check.due("limit 0, two that are self-issued, one that is not, and the last one", x.trusted(6, 0), 0);
        TrustPaths y = Check.line(6);
        y.set(0, 1, 1);
        y.set(1, 1, 3);
        Check.due("limit 1, and then limit 3", y.count(0), 3);
        y.set(0, 1, 3);
        y.set(1, 1, 1);
        Check.due("limit 3, and then limit 1", y.count(0), 4);
    }

    private static void names() {
        Check.part("each that is not self-issued, and the last one in any case, has a subject name that is among the"
            + " allowed names, and not among the barred ones, of all that come before it;");
        for (int place = 0; place < 6; place++) {
            for (int name = 0; name < 8; name++) {
                TrustPaths x = Check.line(6);
                TrustPaths y = Check.line(6);
                x.set(place, 2, 255 - (1 << name));
                y.set(place, 3, 1 << name);
                int reach = name > place + 1 && name <= 6 ? name - 1 : 6;
                Check.due("count, not allowed", x.count(0), reach, place, name);
                Check.due("count, barred", y.count(0), reach, place, name);
            }
        }
        TrustPaths x = new TrustPaths();
        x.anchor(0, 0);
        x.make(1, 1);
        x.make(8 * 1 + 1, 12);
        x.make(8 * 1 + 2, 23);
        x.set(0, 3, 1 << 1);
        Check.due("barred, but self-issued and not the last", x.trusted(2, 0), 1);
        Check.due("barred, self-issued and the last", x.trusted(1, 0), 0);
        x.set(0, 2, 255 - 2);
        x.set(0, 3, 0);
        Check.due("not allowed, but self-issued and not the last", x.trusted(2, 0), 1);
        Check.due("not allowed, self-issued and the last", x.trusted(1, 0), 0);
        x.set(0, 2, 255);
        x.set(1, 3, 1 << 2);
        Check.due("barred by one that is self-issued", x.trusted(2, 0), 0);
    }

    private static void policies() {
        Check.part("some policy is in the policies of all of them.");
        for (int place = 0; place < 6; place++) {
            for (int p = 0; p < 4; p++) {
                TrustPaths x = Check.line(6);
                x.set(place, 4, 1 << p);
                Check.due("count, one policy", x.count(0), 6, place, p);
                x.set((place + 1) % 6, 4, 15 - (1 << p));
                int later = place == 5 ? 5 : place + 1;
                Check.due("count, two that have none in common", x.count(0), later, place, p);
            }
        }
    }

    private static void trusted() {
        Check.part("T is TRUSTED at t if there is a path to it.");
        TrustPaths x = Check.line(2);
        Check.link(x, 0, 1);
        x.times(0, 0, 10);
        x.times(2, 8, 20);
        for (int t = 0; t <= 100; t++) {
            Check.due("trusted", x.trusted(1, t), t <= 20 ? 1 : 0, t);
        }
    }

    private static void best() {
        Check.part("THE BEST path is the one with the fewest certificates; of several the one with the lesser number"
            + " at the first place at which they differ.");
        TrustPaths x = new TrustPaths();
        x.anchor(0, 0);
        Check.link(x, 0, 1);
        Check.link(x, 1, 2);
        Check.link(x, 2, 5);
        Check.link(x, 4, 5);
        Check.link(x, 3, 5);
        Check.link(x, 0, 3);
        Check.link(x, 0, 4);
        int last = Check.link(x, 5, 6);
        bestIs(x, last, 5, 4, last);
        x.hold(5, true);
        bestIs(x, last, 6, 3, last);
        x.hold(6, true);
        bestIs(x, last, 0, 1, 2, last);
    }

    private static void bestIs(TrustPaths x, int c, int... steps) {
        Check.due("length", x.length(c, 0), steps.length);
        for (int i = 0; i < steps.length; i++) {
            Check.due("step", x.step(c, 0, i), steps[i], i);
        }
        Check.due("step, one more", x.step(c, 0, steps.length), NONE);
    }

    private static void orderOfTests() {
        Check.part("In every method the tests are made in the order named;");
        TrustPaths x = new TrustPaths();
        for (int c = 0; c < 12; c++) {
            x.make(0, 0);
        }
        Check.due("make, BAD before FULL", x.make(64, 0), BAD);
        Check.due("make, BAD before FULL", x.make(0, 100), BAD);
        Check.due("make, FULL", x.make(0, 0), FULL);
        Check.due("distrust, BAD before NONE", x.distrust(3), BAD);
        Check.due("distrust, NONE", x.distrust(2), NONE);
        Check.due("length, BAD before NONE", x.length(0, 101), BAD);
        Check.due("step, BAD before NONE", x.step(12, 0, 6), BAD);
        Check.due("step, NONE", x.step(11, 0, 6), NONE);
        Check.due("until, BAD before NONE", x.until(0, -1), BAD);
        Check.due("narrow, BAD before NONE", x.narrow(-1, 0), BAD);
        Check.due("narrow, NONE", x.narrow(0, 0), NONE);
    }

    private static void whatIsGood() {
        Check.part("a name, key, certificate or anchor is good if it is as said (certificates: if there is one with the"
            + " number), a time if it is 0 .. 100.");
        TrustPaths x = Check.line(2);
        for (int v = -3; v <= 103; v++) {
            boolean certificate = v == 0 || v == 1;
            Check.due("trusted, certificate", x.trusted(v, 0), certificate ? 1 : BAD, v);
            boolean time = 0 <= v && v <= 100;
            Check.due("trusted, time", x.trusted(1, v), time ? 1 : BAD, v);
            Check.due("count, time", x.count(v), time ? 2 : BAD, v);
            boolean name = 0 <= v && v <= 7;
            Check.due("keysOf, name", x.keysOf(v, 0, 0), !name ? BAD : v == 1 || v == 2 ? 1 << v : 0, v);
            boolean anchor = 0 <= v && v <= 2;
            Check.due("distrust, anchor", new TrustPaths().distrust(v), anchor ? NONE : BAD, v);
        }
    }

    private static void refusedCalls() {
        Check.part("A refused call (an answer below 0) changes nothing.");
        TrustPaths x = Check.line(3);
        Check.due("make", x.make(64, 11), BAD);
        Check.due("times", x.times(1, 60, 50), BAD);
        Check.due("times", x.times(1, 50, 101), BAD);
        Check.due("set", x.set(1, 0, 2), BAD);
        Check.due("set", x.set(1, 4, 16), BAD);
        Check.due("revoke", x.revoke(1, 101), BAD);
        Check.due("hold", x.hold(3, true), BAD);
        Check.due("anchor", x.anchor(0, 80), BAD);
        Check.due("distrust", x.distrust(1), NONE);
        for (int t = 0; t <= 100; t++) {
            Check.due("count", x.count(t), 3, t);
        }
        Check.due("policies", x.policies(2, 0), 15);
        Check.due("revoke, it was not", x.revoke(1, 100), 0);
        Check.due("anchor 1, it was not there", x.anchor(1, 0), 0);
        Check.due("make, the next number", Check.link(x, 3, 4), 3);
        Check.due("hold, it was not", x.hold(3, true), 0);
    }

    private static void questions() {
        Check.part("Questions change nothing.");
        TrustPaths x = Check.line(3);
        x.times(0, 10, 90);
        x.revoke(1, 50);
        for (int round = 0; round < 3; round++) {
            Check.due("depending", x.depending(0, 20), 3, round);
            Check.due("trusted", x.trusted(2, 20), 1, round);
            Check.due("narrow", x.narrow(2, 20), 0, round);
            Check.due("length", x.length(2, 20), 3, round);
            Check.due("until", x.until(2, 20), 49, round);
            Check.due("step", x.step(2, 20, 1), 1, round);
            Check.due("keysOf", x.keysOf(3, 20, 3), 8, round);
            Check.due("policies", x.policies(2, 20), 15, round);
            Check.due("count", x.count(50), 1, round);
        }
        Check.due("hold, it was not", x.hold(0, false), 0);
        Check.due("anchor, it was there", x.anchor(0, 0), 1);
        Check.due("make, the next number", x.make(0, 0), 3);
    }
}
