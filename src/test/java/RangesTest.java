import java.util.Set;
import java.util.TreeSet;
import java.util.function.IntUnaryOperator;

/**
 * Each argument of each method: all that is taken, the first that is not on both sides, what lies
 * near a wrap-around, the least and the greatest int; and which refusal comes first.
 */
public final class RangesTest {
    private static final int BAD = Check.BAD;
    private static final int NONE = Check.NONE;
    private static final int FULL = Check.FULL;
    private static final int[] MOST = {1, 4, 255, 255, 15};
    private static final int[] AT_FIRST = {1, 4, 255, 0, 15};
    private static final int[] VALUES = values();

    private interface Call {
        int on(TrustPaths x, int value);
    }

    public static void main(String[] args) {
        make();
        times();
        fromAndTo();
        set();
        revokeAndHold();
        anchors();
        trusted();
        lengthAndStep();
        policiesAndCount();
        keysOf();
        untilDependingNarrow();
        numberOfCertificates();
        badBeforeFull();
        badBeforeNone();
        badOfSeveral();
        Check.end();
    }

    /** All near 0, and around each power of two and what wraps to a small number if it is multiplied. */
    private static int[] values() {
        Set<Integer> found = new TreeSet<>();
        for (int v = -300; v <= 600; v++) {
            found.add(v);
        }
        for (int power = 0; power < 32; power++) {
            for (int near = -2; near <= 2; near++) {
                found.add((1 << power) + near);
                found.add(-(1 << power) + near);
                found.add((int) ((1L << power) / 10) + near);
                found.add((int) ((1L << 32) * (power % 10) / 10) + near);
            }
        }
        found.add(Check.LEAST);
        found.add(Check.GREATEST);
        return found.stream().mapToInt(Integer::intValue).toArray();
    }

    /** On a line of three each time: values first .. last answer as due, all others are refused. */
    private static void range(String call, Call asked, int first, int last, IntUnaryOperator due, int refusal) {
        for (int v : VALUES) {
            int want = first <= v && v <= last ? due.applyAsInt(v) : refusal;
            Check.due(call, asked.on(Check.line(3), v), want, v);
        }
    }

    private static void range(String call, Call asked, int first, int last, IntUnaryOperator due) {
        range(call, asked, first, last, due, BAD);
    }

    private static void make() {
        Check.part("promise 2, names is not 0 .. 63, or keys not 0 .. 99: BAD");
        range("make(v, 0)", (x, v) -> x.make(v, 0), 0, 63, v -> 3);
        range("make(v, 99)", (x, v) -> x.make(v, 99), 0, 63, v -> 3);
        range("make(0, v)", (x, v) -> x.make(0, v), 0, 99, v -> 3);
        range("make(63, v)", (x, v) -> x.make(63, v), 0, 99, v -> 3);
    }

    private static void times() {
        Check.part("promise 3, c, from or to is not good, or from is above to: BAD");
        range("times(v, 0, 100)", (x, v) -> x.times(v, 0, 100), 0, 2, v -> 0);
        range("times(0, v, 100)", (x, v) -> x.times(0, v, 100), 0, 100, v -> 0);
        range("times(0, 0, v)", (x, v) -> x.times(0, 0, v), 0, 100, v -> 0);
        range("times(2, v, 50)", (x, v) -> x.times(2, v, 50), 0, 50, v -> 0);
        range("times(2, 50, v)", (x, v) -> x.times(2, 50, v), 50, 100, v -> 0);
        range("times(2, v, v)", (x, v) -> x.times(2, v, v), 0, 100, v -> 0);
        range("times(1, v, 0)", (x, v) -> x.times(1, v, 0), 0, 0, v -> 0);
        range("times(1, 100, v)", (x, v) -> x.times(1, 100, v), 100, 100, v -> 0);
    }

    private static void fromAndTo() {
        Check.part("terms, good FROM a time TO a time (0 .. 100 each, from <= to)");
        for (int from = -1; from <= 101; from++) {
            for (int to = -1; to <= 101; to++) {
                TrustPaths x = Check.line(1);
                x.times(0, 30, 70);
                boolean taken = 0 <= from && from <= to && to <= 100;
                Check.due("times(0, from, to)", x.times(0, from, to), taken ? 0 : BAD, from, to);
                int first = taken ? from : 30;
                int last = taken ? to : 70;
                Check.due("trusted at from", x.trusted(0, first), 1, from, to);
                Check.due("trusted at to", x.trusted(0, last), 1, from, to);
                Check.due("trusted before from", x.trusted(0, first - 1), first == 0 ? BAD : 0, from, to);
                Check.due("trusted after to", x.trusted(0, last + 1), last == 100 ? BAD : 0, from, to);
            }
        }
    }

    private static void set() {
        Check.part("promise 4, c is not good, what is not 0 .. 4, or value not as said: BAD");
        range("set(v, 0, 1)", (x, v) -> x.set(v, 0, 1), 0, 2, v -> 1);
        range("set(v, 4, 15)", (x, v) -> x.set(v, 4, 15), 0, 2, v -> 15);
        range("set(0, v, 0)", (x, v) -> x.set(0, v, 0), 0, 4, v -> AT_FIRST[v]);
        range("set(2, v, 1)", (x, v) -> x.set(2, v, 1), 0, 4, v -> AT_FIRST[v]);
        for (int i = 0; i < 5; i++) {
            int what = i;
            range("set(0, " + what + ", v)", (x, v) -> x.set(0, what, v), 0, MOST[what], v -> AT_FIRST[what]);
            range("set(2, " + what + ", v)", (x, v) -> setTwice(x, what, v), 0, MOST[what], v -> v, AT_FIRST[what]);
        }
    }

    /** What it was after a call with the value: the value if that was taken, else what it was before. */
    private static int setTwice(TrustPaths x, int what, int value) {
        x.set(2, what, value);
        return x.set(2, what, 0);
    }

    private static void revokeAndHold() {
        Check.part("promise 5, c or time is not good: BAD");
        range("revoke(v, 50)", (x, v) -> x.revoke(v, 50), 0, 2, v -> 0);
        range("revoke(0, v)", (x, v) -> x.revoke(0, v), 0, 100, v -> 0);
        range("revoke(2, v)", (x, v) -> x.revoke(2, v), 0, 100, v -> 0);
        Check.part("promise 6, c is not good: BAD");
        range("hold(v, true)", (x, v) -> x.hold(v, true), 0, 2, v -> 0);
        range("hold(v, false)", (x, v) -> x.hold(v, false), 0, 2, v -> 0);
    }

    private static void anchors() {
        Check.part("promise 7, a is not good, or ends not 0 .. 79: BAD");
        range("anchor(v, 0)", (x, v) -> x.anchor(v, 0), 0, 2, v -> v == 0 ? 1 : 0);
        range("anchor(v, 79)", (x, v) -> x.anchor(v, 79), 0, 2, v -> v == 0 ? 1 : 0);
        range("anchor(0, v)", (x, v) -> x.anchor(0, v), 0, 79, v -> 1);
        range("anchor(2, v)", (x, v) -> x.anchor(2, v), 0, 79, v -> 0);
        Check.part("promise 8, a is not good: BAD; it is not there: NONE");
        range("distrust(v)", (x, v) -> x.distrust(v), 0, 2, v -> v == 0 ? 0 : NONE);
    }

    private static void trusted() {
        Check.part("promise 9, c or time is not good: BAD");
        range("trusted(v, 0)", (x, v) -> x.trusted(v, 0), 0, 2, v -> 1);
        range("trusted(v, 100)", (x, v) -> x.trusted(v, 100), 0, 2, v -> 1);
        range("trusted(0, v)", (x, v) -> x.trusted(0, v), 0, 100, v -> 1);
        range("trusted(2, v)", (x, v) -> x.trusted(2, v), 0, 100, v -> 1);
    }

    private static void lengthAndStep() {
        Check.part("promise 10, c or time is not good: BAD");
        range("length(v, 0)", (x, v) -> x.length(v, 0), 0, 2, v -> v + 1);
        range("length(2, v)", (x, v) -> x.length(2, v), 0, 100, v -> 3);
        Check.part("promise 11, c or time is not good: BAD; it has no such certificate: NONE");
        range("step(v, 100, 0)", (x, v) -> x.step(v, 100, 0), 0, 2, v -> 0);
        range("step(2, v, 1)", (x, v) -> x.step(2, v, 1), 0, 100, v -> 1);
        for (int i = 0; i < 3; i++) {
            int c = i;
            range("step(" + c + ", 0, v)", (x, v) -> x.step(c, 0, v), 0, c, v -> v, NONE);
        }
    }

    private static void policiesAndCount() {
        Check.part("promise 12, c or time is not good: BAD");
        range("policies(v, 0)", (x, v) -> x.policies(v, 0), 0, 2, v -> 15);
        range("policies(2, v)", (x, v) -> x.policies(2, v), 0, 100, v -> 15);
        Check.part("promise 13, time is not good: BAD");
        range("count(v)", (x, v) -> x.count(v), 0, 100, v -> 3);
    }

    private static void keysOf() {
        Check.part("promise 14, name is not good, time is not good, or policy is not 0 .. 3: BAD");
        range("keysOf(v, 0, 0)", (x, v) -> x.keysOf(v, 0, 0), 0, 7, v -> v >= 1 && v <= 3 ? 1 << v : 0);
        range("keysOf(v, 100, 3)", (x, v) -> x.keysOf(v, 100, 3), 0, 7, v -> v >= 1 && v <= 3 ? 1 << v : 0);
        range("keysOf(3, v, 0)", (x, v) -> x.keysOf(3, v, 0), 0, 100, v -> 8);
        range("keysOf(3, 0, v)", (x, v) -> x.keysOf(3, 0, v), 0, 3, v -> 8);
    }

    private static void untilDependingNarrow() {
        Check.part("promise 15, c or time is not good: BAD");
        range("until(v, 0)", (x, v) -> x.until(v, 0), 0, 2, v -> 100);
        range("until(2, v)", (x, v) -> x.until(2, v), 0, 100, v -> 100);
        Check.part("promise 16, c or time is not good: BAD");
        range("depending(v, 0)", (x, v) -> x.depending(v, 0), 0, 2, v -> 3 - v);
        range("depending(0, v)", (x, v) -> x.depending(0, v), 0, 100, v -> 3);
        Check.part("promise 17, T or time is not good: BAD; there is none: NONE");
        range("narrow(v, 0)", (x, v) -> x.narrow(v, 0), 0, 2, v -> v == 0 ? NONE : 0);
        range("narrow(2, v)", (x, v) -> x.narrow(2, v), 0, 100, v -> 0);
    }

    private static void numberOfCertificates() {
        Check.part("terms, certificates are good if there is one with the number");
        int[] near = {Check.LEAST, -33, -32, -12, -1, 32, 44, 64, 256, 1 << 16, Check.GREATEST};
        for (int made = 0; made <= 12; made++) {
            for (int c = -2; c <= 14; c++) {
                certificate(made, c);
            }
            for (int c : near) {
                certificate(made, c);
            }
        }
    }

    /** Each method that takes a certificate, on an object of its own; no anchor is there. */
    private static void certificate(int made, int c) {
        boolean good = 0 <= c && c < made;
        Check.due("times", several(made).times(c, 0, 100), good ? 0 : BAD, made, c);
        for (int what = 0; what < 5; what++) {
            Check.due("set", several(made).set(c, what, 0), good ? AT_FIRST[what] : BAD, made, c, what);
        }
        Check.due("revoke", several(made).revoke(c, 0), good ? 0 : BAD, made, c);
        Check.due("hold", several(made).hold(c, true), good ? 0 : BAD, made, c);
        Check.due("hold", several(made).hold(c, false), good ? 0 : BAD, made, c);
        Check.due("trusted", several(made).trusted(c, 0), good ? 0 : BAD, made, c);
        Check.due("length", several(made).length(c, 0), good ? NONE : BAD, made, c);
        Check.due("step", several(made).step(c, 0, 0), good ? NONE : BAD, made, c);
        Check.due("policies", several(made).policies(c, 0), good ? 0 : BAD, made, c);
        Check.due("until", several(made).until(c, 0), good ? NONE : BAD, made, c);
        Check.due("depending", several(made).depending(c, 0), good ? 0 : BAD, made, c);
        Check.due("narrow", several(made).narrow(c, 0), good ? NONE : BAD, made, c);
    }

    private static TrustPaths several(int made) {
        TrustPaths x = new TrustPaths();
        for (int c = 0; c < made; c++) {
            Check.due("make", x.make(63, 99), c, made);
        }
        return x;
    }

    private static void badBeforeFull() {
        Check.part("terms, tests are made in the order named: BAD before FULL");
        TrustPaths x = several(12);
        int[] notNames = {-1, 64, Check.LEAST, Check.GREATEST};
        int[] notKeys = {-1, 100, Check.LEAST, Check.GREATEST};
        for (int i = 0; i < 4; i++) {
            Check.due("make(names, 0)", x.make(notNames[i], 0), BAD, notNames[i]);
            Check.due("make(63, keys)", x.make(63, notKeys[i]), BAD, notKeys[i]);
            Check.due("make(names, keys)", x.make(notNames[i], notKeys[i]), BAD, notNames[i], notKeys[i]);
        }
        Check.due("make(0, 0)", x.make(0, 0), FULL);
        Check.due("make(63, 0)", x.make(63, 0), FULL);
        Check.due("make(0, 99)", x.make(0, 99), FULL);
        Check.due("make(63, 99)", x.make(63, 99), FULL);
    }

    private static void badBeforeNone() {
        Check.part("terms, tests are made in the order named: BAD before NONE");
        TrustPaths x = several(2);
        int[] notAnchors = {-1, 3, Check.LEAST, Check.GREATEST};
        int[] notCertificates = {-1, 2, Check.LEAST, Check.GREATEST};
        int[] notTimes = {-1, 101, Check.LEAST, Check.GREATEST};
        for (int i = 0; i < 4; i++) {
            Check.due("distrust", x.distrust(notAnchors[i]), BAD, notAnchors[i]);
            noPath(x, notCertificates[i], 0);
            noPath(x, 1, notTimes[i]);
            noPath(x, notCertificates[i], notTimes[i]);
        }
        for (int a = 0; a < 3; a++) {
            Check.due("distrust", x.distrust(a), NONE, a);
        }
    }

    private static void noPath(TrustPaths x, int c, int time) {
        int[] places = {0, -1, 6, Check.LEAST, Check.GREATEST};
        for (int i : places) {
            Check.due("step", x.step(c, time, i), BAD, c, time, i);
        }
        Check.due("length", x.length(c, time), BAD, c, time);
        Check.due("until", x.until(c, time), BAD, c, time);
        Check.due("narrow", x.narrow(c, time), BAD, c, time);
    }

    private static void badOfSeveral() {
        Check.part("more than one argument that is not good: BAD");
        int[] far = {Check.LEAST, -1, Check.GREATEST};
        for (int v : far) {
            for (int w : far) {
                TrustPaths x = Check.line(3);
                Check.due("make", x.make(v, w), BAD, v, w);
                Check.due("times", x.times(v, w, w), BAD, v, w);
                Check.due("times", x.times(0, v, w), BAD, v, w);
                Check.due("set", x.set(v, w, w), BAD, v, w);
                Check.due("set", x.set(0, v, w), BAD, v, w);
                Check.due("revoke", x.revoke(v, w), BAD, v, w);
                Check.due("anchor", x.anchor(v, w), BAD, v, w);
                Check.due("trusted", x.trusted(v, w), BAD, v, w);
                Check.due("length", x.length(v, w), BAD, v, w);
                Check.due("step", x.step(v, w, v), BAD, v, w);
                Check.due("policies", x.policies(v, w), BAD, v, w);
                Check.due("keysOf", x.keysOf(v, w, w), BAD, v, w);
                Check.due("keysOf", x.keysOf(0, v, w), BAD, v, w);
                Check.due("until", x.until(v, w), BAD, v, w);
                Check.due("depending", x.depending(v, w), BAD, v, w);
                Check.due("narrow", x.narrow(v, w), BAD, v, w);
                Check.due("count after all of them", x.count(0), 3, v, w);
            }
        }
    }
}
