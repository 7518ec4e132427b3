import java.util.ArrayList;
import java.util.Arrays;
import java.util.List;

/**
 * "A refused call (an answer below 0) changes nothing. Questions change nothing." Each kind of
 * refused call and each question is put to an object, which is then looked at from all sides, and
 * must answer as one to which the call was not put.
 */
public final class UnchangedTest {
    private static final int MOST_CALLS = 512;
    private static final int[] FAR = {Check.LEAST, -1, Check.GREATEST};

    // The methods, in the document's order.
    private static final int MAKE = 0;
    private static final int TIMES = 1;
    private static final int SET = 2;
    private static final int REVOKE = 3;
    private static final int HOLD = 4;
    private static final int ANCHOR = 5;
    private static final int DISTRUST = 6;
    private static final int TRUSTED = 7;
    private static final int LENGTH = 8;
    private static final int STEP = 9;
    private static final int POLICIES = 10;
    private static final int COUNT = 11;
    private static final int KEYS_OF = 12;
    private static final int UNTIL = 13;
    private static final int DEPENDING = 14;
    private static final int NARROW = 15;

    // The calls that bring an object to where the test begins, and how many certificates it has.
    private static List<int[]> setup;
    private static int made;
    private static List<int[]> looks;
    private static int[] seenBefore;

    public static void main(String[] args) {
        begin("the empty object", new ArrayList<>());
        all();
        begin("an object with anchors alone", list(call(ANCHOR, 0, 0), call(ANCHOR, 2, 79)));
        all();
        begin("an object with certificates alone", list(call(MAKE, 1, 1), call(MAKE, 10, 12)));
        all();
        begin("an object with some of everything", some());
        all();
        begin("the full object", full());
        all();
        begin("the full object, the last one held and revoked", fullAndHeld());
        all();
        Check.end();
    }

    private static void all() {
        refusedMakes();
        refusedTimes();
        refusedSets();
        refusedRevokes();
        refusedHolds();
        refusedAnchors();
        refusedDistrusts();
        refusedQuestions();
        questions();
        thereAndBack();
        othersAfterMake();
    }

    private static void begin(String name, List<int[]> calls) {
        Check.part(name);
        setup = calls;
        made = 0;
        for (int[] a : calls) {
            made += a[0] == MAKE ? 1 : 0;
        }
        looks = looks();
        seenBefore = seen(new ArrayList<>());
    }

    private static int[] call(int... a) {
        return a;
    }

    private static List<int[]> list(int[]... calls) {
        return new ArrayList<>(Arrays.asList(calls));
    }

    private static List<int[]> some() {
        return list(
            call(ANCHOR, 0, 0), call(ANCHOR, 2, 55),
            call(MAKE, 8 * 0 + 1, 1), call(MAKE, 8 * 1 + 2, 12), call(MAKE, 8 * 2 + 3, 23), call(MAKE, 8 * 5 + 2, 52),
            call(MAKE, 8 * 1 + 1, 11), call(MAKE, 8 * 3 + 4, 34), call(MAKE, 8 * 4 + 7, 49),
            call(TIMES, 0, 10, 90), call(TIMES, 3, 30, 60), call(TIMES, 5, 0, 80),
            call(SET, 0, 1, 3), call(SET, 1, 3, 64), call(SET, 2, 2, 254), call(SET, 3, 4, 6), call(SET, 6, 0, 0),
            call(REVOKE, 1, 70), call(REVOKE, 3, 55), call(HOLD, 4, 1));
    }

    /** Twelve: two ways to name 3, a ring, one held, some that end, three anchors. */
    private static List<int[]> full() {
        List<int[]> calls = list(
            call(ANCHOR, 0, 0), call(ANCHOR, 1, 77), call(ANCHOR, 2, 33),
            call(MAKE, 8 * 0 + 1, 1), call(MAKE, 8 * 1 + 3, 13), call(MAKE, 8 * 0 + 2, 2), call(MAKE, 8 * 2 + 3, 23),
            call(MAKE, 8 * 3 + 4, 34), call(MAKE, 8 * 4 + 4, 45), call(MAKE, 8 * 4 + 5, 55), call(MAKE, 8 * 5 + 6, 56),
            call(MAKE, 8 * 7 + 1, 71), call(MAKE, 8 * 6 + 0, 60), call(MAKE, 8 * 7 + 7, 77), call(MAKE, 8 * 1 + 0, 19));
        calls.addAll(list(
            call(TIMES, 0, 20, 100), call(TIMES, 2, 0, 50), call(TIMES, 8, 40, 41), call(TIMES, 10, 100, 100),
            call(SET, 1, 4, 3), call(SET, 3, 4, 12), call(SET, 5, 1, 0), call(SET, 4, 2, 127), call(SET, 0, 3, 4),
            call(SET, 11, 0, 0), call(REVOKE, 7, 60), call(REVOKE, 9, 0), call(HOLD, 10, 1), call(HOLD, 6, 0)));
        return calls;
    }

    private static List<int[]> fullAndHeld() {
        List<int[]> calls = full();
        calls.addAll(list(
            call(TIMES, 11, 5, 95), call(SET, 11, 1, 2), call(SET, 11, 2, 6), call(SET, 11, 3, 9), call(SET, 11, 4, 8),
            call(REVOKE, 11, 90), call(HOLD, 11, 1), call(HOLD, 10, 0), call(HOLD, 0, 1), call(DISTRUST, 1)));
        return calls;
    }

    private static int put(TrustPaths x, int[] a) {
        switch (a[0]) {
            case MAKE: return x.make(a[1], a[2]);
            case TIMES: return x.times(a[1], a[2], a[3]);
            case SET: return x.set(a[1], a[2], a[3]);
            case REVOKE: return x.revoke(a[1], a[2]);
            case HOLD: return x.hold(a[1], a[2] == 1);
            case ANCHOR: return x.anchor(a[1], a[2]);
            case DISTRUST: return x.distrust(a[1]);
            case TRUSTED: return x.trusted(a[1], a[2]);
            case LENGTH: return x.length(a[1], a[2]);
            case STEP: return x.step(a[1], a[2], a[3]);
            case POLICIES: return x.policies(a[1], a[2]);
            case COUNT: return x.count(a[1]);
            case KEYS_OF: return x.keysOf(a[1], a[2], a[3]);
            case UNTIL: return x.until(a[1], a[2]);
            case DEPENDING: return x.depending(a[1], a[2]);
            default: return x.narrow(a[1], a[2]);
        }
    }

    /** Looks at an object on which the setup and then these calls were put. */
    private static int[] seen(List<int[]> calls) {
        List<int[]> before = new ArrayList<>(setup);
        before.addAll(calls);
        List<Integer> answers = new ArrayList<>();
        int at = 0;
        while (at < looks.size()) {
            TrustPaths x = object(before);
            int end = Math.min(looks.size(), at + MOST_CALLS - before.size());
            for (; at < end; at++) {
                answers.add(put(x, looks.get(at)));
            }
        }
        settings(object(before), answers);
        for (int c = 0; c < made; c++) {
            times(object(before), c, answers);
        }
        if (made < 12) {
            anchors(before, answers);
        }
        return answers.stream().mapToInt(Integer::intValue).toArray();
    }

    private static TrustPaths object(List<int[]> calls) {
        TrustPaths x = new TrustPaths();
        for (int[] a : calls) {
            put(x, a);
        }
        return x;
    }

    private static List<int[]> looks() {
        List<int[]> found = new ArrayList<>();
        int[] some = {0, 41, 100};
        for (int time : some) {
            for (int c = 0; c <= made; c++) {
                for (int method = TRUSTED; method <= NARROW; method++) {
                    if (method != STEP && method != COUNT && method != KEYS_OF) {
                        found.add(call(method, c, time));
                    }
                }
                for (int i = 0; i < 6; i++) {
                    found.add(call(STEP, c, time, i));
                }
            }
            for (int name = 0; name < 8; name++) {
                found.add(call(KEYS_OF, name, time, 0));
                found.add(call(KEYS_OF, name, time, 3));
            }
        }
        for (int time = 0; time <= 100; time++) {
            found.add(call(COUNT, time));
        }
        return found;
    }

    /** Each of these calls answers what was there, and takes away only what it has told. */
    private static void settings(TrustPaths x, List<Integer> answers) {
        for (int c = 0; c < 12; c++) {
            for (int what = 0; what < 5; what++) {
                answers.add(x.set(c, what, 0));
            }
            answers.add(x.revoke(c, 0));
            answers.add(x.hold(c, false));
        }
        for (int a = 0; a < 3; a++) {
            answers.add(x.distrust(a));
        }
        answers.add(x.make(0, 0));
    }

    /** With an anchor of its own and no hold a certificate shows all its times. */
    private static void times(TrustPaths x, int c, List<Integer> answers) {
        int[] make = makeOf(c);
        x.anchor(0, 10 * (make[1] / 8) + make[2] / 10);
        x.hold(c, false);
        x.set(c, 4, 15);
        for (int t = 0; t <= 100; t++) {
            answers.add(x.trusted(c, t));
        }
        x.revoke(c, 100);
        for (int t = 0; t <= 100; t++) {
            answers.add(x.trusted(c, t));
        }
    }

    private static int[] makeOf(int c) {
        int left = c;
        for (int[] a : setup) {
            if (a[0] == MAKE && left-- == 0) {
                return a;
            }
        }
        throw new IllegalStateException("no certificate " + c);
    }

    /** For each anchor alone: to which of all ends does it lead? */
    private static void anchors(List<int[]> before, List<Integer> answers) {
        for (int ends = 0; ends < 80; ends++) {
            for (int a = 0; a < 3; a++) {
                TrustPaths x = object(before);
                x.distrust((a + 1) % 3);
                x.distrust((a + 2) % 3);
                int c = x.make(8 * (ends / 10), 10 * (ends % 10));
                for (int other = 0; other < c; other++) {
                    x.hold(other, true);
                }
                answers.add(x.trusted(c, 0));
            }
        }
    }

    private static void dueUnchanged(String kind, int[]... calls) {
        int[] after = seen(list(calls));
        int first = Arrays.mismatch(seenBefore, after);
        String text = kind + " " + Arrays.deepToString(calls);
        Check.due(text + " changes nothing", first, -1);
    }

    /** The answer is due on an object of its own, and after it nothing has changed. */
    private static void refused(int want, int... a) {
        Check.due("refused " + Arrays.toString(a), put(object(setup), a), want);
        dueUnchanged("refused", a);
    }

    private static void refusedMakes() {
        for (int names : new int[] {-1, 64, Check.LEAST, Check.GREATEST}) {
            refused(Check.BAD, MAKE, names, 0);
        }
        for (int keys : new int[] {-1, 100, Check.LEAST, Check.GREATEST}) {
            refused(Check.BAD, MAKE, 0, keys);
        }
        if (made == 12) {
            refused(Check.FULL, MAKE, 0, 0);
            refused(Check.FULL, MAKE, 63, 99);
            dueUnchanged("FULL twice", call(MAKE, 1, 1), call(MAKE, 8, 10));
        }
    }

    private static int[] notCertificates() {
        return new int[] {Check.LEAST, -1, made, 12, 32, Check.GREATEST};
    }

    private static void refusedTimes() {
        for (int c : notCertificates()) {
            refused(Check.BAD, TIMES, c, 45, 46);
        }
        for (int c = 0; c < made; c++) {
            refused(Check.BAD, TIMES, c, -1, 46);
            refused(Check.BAD, TIMES, c, 101, 46);
            refused(Check.BAD, TIMES, c, 45, -1);
            refused(Check.BAD, TIMES, c, 45, 101);
            refused(Check.BAD, TIMES, c, 46, 45);
            refused(Check.BAD, TIMES, c, 100, 0);
            refused(Check.BAD, TIMES, c, Check.LEAST, Check.GREATEST);
            refused(Check.BAD, TIMES, c, Check.GREATEST, Check.LEAST);
        }
    }

    private static void refusedSets() {
        int[] most = {1, 4, 255, 255, 15};
        for (int what = 0; what < 5; what++) {
            for (int c : notCertificates()) {
                refused(Check.BAD, SET, c, what, 1);
            }
            for (int c = 0; c < made; c++) {
                refused(Check.BAD, SET, c, what, most[what] + 1);
                refused(Check.BAD, SET, c, what, -1);
            }
            if (made > 0) {
                refused(Check.BAD, SET, made - 1, what, Check.LEAST);
                refused(Check.BAD, SET, made - 1, what, Check.GREATEST);
            }
        }
        if (made > 0) {
            for (int what : new int[] {Check.LEAST, -1, 5, 8, 256, Check.GREATEST}) {
                refused(Check.BAD, SET, 0, what, 0);
                refused(Check.BAD, SET, made - 1, what, 1);
            }
        }
    }

    private static void refusedRevokes() {
        for (int c : notCertificates()) {
            refused(Check.BAD, REVOKE, c, 0);
        }
        for (int c = 0; c < made; c++) {
            for (int time : new int[] {Check.LEAST, -1, 101, Check.GREATEST}) {
                refused(Check.BAD, REVOKE, c, time);
            }
        }
    }

    private static void refusedHolds() {
        for (int c : notCertificates()) {
            refused(Check.BAD, HOLD, c, 1);
            refused(Check.BAD, HOLD, c, 0);
        }
    }

    private static void refusedAnchors() {
        for (int a : new int[] {Check.LEAST, -1, 3, 32, Check.GREATEST}) {
            refused(Check.BAD, ANCHOR, a, 0);
            refused(Check.BAD, ANCHOR, a, 79);
        }
        for (int a = 0; a < 3; a++) {
            for (int ends : new int[] {Check.LEAST, -1, 80, Check.GREATEST}) {
                refused(Check.BAD, ANCHOR, a, ends);
            }
        }
    }

    private static void refusedDistrusts() {
        for (int a : new int[] {Check.LEAST, -1, 3, 32, Check.GREATEST}) {
            refused(Check.BAD, DISTRUST, a);
        }
        for (int a = 0; a < 3; a++) {
            if (object(setup).distrust(a) < 0) {
                refused(Check.NONE, DISTRUST, a);
            }
        }
    }

    private static void refusedQuestions() {
        for (int method = TRUSTED; method <= NARROW; method++) {
            if (method == COUNT || method == KEYS_OF) {
                continue;
            }
            for (int c : notCertificates()) {
                refused(Check.BAD, method, c, 50, 0);
            }
            for (int time : new int[] {Check.LEAST, -1, 101, Check.GREATEST}) {
                refused(Check.BAD, method, 0, time, 0);
            }
        }
        for (int far : FAR) {
            refused(Check.BAD, COUNT, far);
            refused(Check.BAD, KEYS_OF, far, 0, 0);
            refused(Check.BAD, KEYS_OF, 0, far, 0);
            refused(Check.BAD, KEYS_OF, 0, 0, far);
        }
        refused(Check.BAD, COUNT, 101);
        refused(Check.BAD, KEYS_OF, 8, 0, 0);
        refused(Check.BAD, KEYS_OF, 0, 101, 0);
        refused(Check.BAD, KEYS_OF, 0, 0, 4);
    }

    private static void questions() {
        int[] times = {0, 41, 100};
        for (int time : times) {
            for (int c = 0; c < made; c++) {
                for (int method = TRUSTED; method <= NARROW; method++) {
                    if (method != COUNT && method != KEYS_OF) {
                        question(method, c, time, 0);
                    }
                }
                question(STEP, c, time, 2);
                question(STEP, c, time, 6);
                question(STEP, c, time, -1);
            }
            question(COUNT, time);
            for (int name = 0; name < 8; name++) {
                question(KEYS_OF, name, time, name % 4);
            }
        }
    }

    private static void question(int... a) {
        TrustPaths x = object(setup);
        int first = put(x, a);
        Check.due("asked again " + Arrays.toString(a), put(x, a), first);
        dueUnchanged("asked", a);
    }

    /** A change that is taken back leaves no trace, for it has changed nothing else. */
    private static void thereAndBack() {
        int[] most = {1, 4, 255, 255, 15};
        for (int c = 0; c < made; c++) {
            for (int what = 0; what < 5; what++) {
                int was = object(setup).set(c, what, 0);
                dueUnchanged("back", call(SET, c, what, most[what]), call(SET, c, what, was));
                dueUnchanged("back", call(SET, c, what, 0), call(SET, c, what, was));
            }
            int held = object(setup).hold(c, false);
            dueUnchanged("back", call(HOLD, c, 1 - held), call(HOLD, c, held));
            int[] times = timesOf(c);
            dueUnchanged("back", call(TIMES, c, 43, 44), call(TIMES, c, times[0], times[1]));
        }
        for (int a = 0; a < 3; a++) {
            if (object(setup).anchor(a, 0) == 0) {
                dueUnchanged("back", call(ANCHOR, a, 21), call(DISTRUST, a));
            }
        }
    }

    private static int[] timesOf(int c) {
        int[] times = {0, 100};
        for (int[] a : setup) {
            if (a[0] == TIMES && a[1] == c) {
                times = new int[] {a[2], a[3]};
            }
        }
        return times;
    }

    /** A new certificate to which nothing leads changes no answer about the others. */
    private static void othersAfterMake() {
        if (made == 12) {
            return;
        }
        TrustPaths before = object(setup);
        TrustPaths after = object(setup);
        Check.due("make", after.make(8 * 7 + 6, 88), made);
        for (int c = 0; c < made; c++) {
            for (int t = 0; t <= 100; t += 10) {
                Check.due("trusted after make", after.trusted(c, t), before.trusted(c, t), c, t);
            }
            for (int what = 0; what < 5; what++) {
                Check.due("set after make", after.set(c, what, 0), before.set(c, what, 0), c, what);
            }
            Check.due("hold after make", after.hold(c, false), before.hold(c, false), c);
            Check.due("revoke after make", after.revoke(c, 0), before.revoke(c, 0), c);
        }
        for (int a = 0; a < 3; a++) {
            Check.due("distrust after make", after.distrust(a), before.distrust(a), a);
        }
    }
}
