/** "An object is used for at most 512 calls after it has been made": all 512 answer as they should. */
public final class CallsTest {
    private static final int BAD = Check.BAD;
    private static final int NONE = Check.NONE;
    private static final int FULL = Check.FULL;
    private static final int CALLS = 512;

    public static void main(String[] args) {
        refusedCallsFirst();
        changesFirst();
        anchorsFirst();
        questionsFirst();
        sameQuestionAlways();
        fullObject();
        slowestQuestions();
        laterCalls();
        Check.end();
    }

    private static void refusedCallsFirst() {
        Check.part("511 refused calls, and then one that is taken");
        TrustPaths x = new TrustPaths();
        for (int call = 1; call < CALLS; call++) {
            int got = call % 3 == 0 ? x.make(64, 0) : call % 3 == 1 ? x.hold(0, true) : x.anchor(3, 0);
            Check.due("refused", got, BAD, call);
        }
        Check.due("make, call 512", x.make(0, 0), 0);
        TrustPaths y = new TrustPaths();
        for (int call = 1; call < CALLS; call++) {
            Check.due("distrust", y.distrust(call % 3), NONE, call);
        }
        Check.due("anchor, call 512", y.anchor(0, 0), 0);
        TrustPaths z = new TrustPaths();
        for (int call = 1; call <= CALLS; call++) {
            Check.due("make", z.make(0, 0), call <= 12 ? call - 1 : FULL, call);
        }
    }

    private static void changesFirst() {
        Check.part("509 changes of a certificate, and then what they came to");
        TrustPaths x = new TrustPaths();
        x.make(0, 0);
        for (int call = 2; call < CALLS - 1; call++) {
            Check.due("hold", x.hold(0, call % 2 == 0), call == 2 ? 0 : call % 2, call);
        }
        Check.due("anchor, call 511", x.anchor(0, 0), 0);
        Check.due("trusted, call 512", x.trusted(0, 0), 0);
        TrustPaths y = new TrustPaths();
        y.make(0, 0);
        y.anchor(0, 0);
        for (int call = 3; call < CALLS; call++) {
            Check.due("revoke", y.revoke(0, call % 101), call == 3 ? 0 : 1, call);
        }
        Check.due("until, call 512", y.until(0, 0), 511 % 101 - 1);
        TrustPaths z = new TrustPaths();
        z.make(0, 0);
        z.anchor(0, 0);
        for (int call = 3; call < CALLS; call++) {
            Check.due("times", z.times(0, 0, call % 101), 0, call);
        }
        Check.due("until, call 512", z.until(0, 0), 511 % 101);
        TrustPaths w = new TrustPaths();
        w.make(0, 0);
        int before = 255;
        for (int call = 2; call <= CALLS; call++) {
            Check.due("set, to call 512", w.set(0, 2, call * 7 % 256), before, call);
            before = call * 7 % 256;
        }
    }

    private static void anchorsFirst() {
        Check.part("510 changes of anchors, and then what they came to");
        TrustPaths x = new TrustPaths();
        x.make(63, 99);
        for (int call = 2; call < CALLS; call++) {
            Check.due("anchor or distrust", call % 2 == 0 ? x.anchor(1, 79) : x.distrust(1), 0, call);
        }
        Check.due("count, call 512", x.count(0), 0);
        TrustPaths y = new TrustPaths();
        y.make(63, 99);
        for (int call = 2; call < CALLS; call++) {
            Check.due("anchor", y.anchor(call % 3, (call + 48) % 80), call < 5 ? 0 : 1, call);
        }
        Check.due("count, call 512, the last anchor was 79", y.count(0), 1);
    }

    private static void questionsFirst() {
        Check.part("questions, and then a change and a question");
        TrustPaths x = Check.line(6);
        for (int call = 8; call < CALLS - 1; call++) {
            Check.due("question", ask(x, call % 9), want(call % 9), call);
        }
        Check.due("hold, call 511", x.hold(0, true), 0);
        Check.due("count, call 512", x.count(0), 0);
    }

    private static void sameQuestionAlways() {
        Check.part("the same question up to call 511, and then a change");
        for (int which = 0; which < 9; which++) {
            TrustPaths x = Check.line(6);
            for (int call = 8; call < CALLS; call++) {
                Check.due("question", ask(x, which), want(which), which, call);
            }
            Check.due("make, call 512", x.make(0, 0), 6, which);
        }
    }

    private static int ask(TrustPaths x, int which) {
        switch (which) {
            case 0: return x.trusted(5, 50);
            case 1: return x.length(5, 50);
            case 2: return x.step(5, 50, 3);
            case 3: return x.policies(5, 50);
            case 4: return x.count(50);
            case 5: return x.keysOf(6, 50, 1);
            case 6: return x.until(5, 50);
            case 7: return x.depending(2, 50);
            default: return x.narrow(5, 50);
        }
    }

    private static int want(int which) {
        int[] answers = {1, 6, 3, 15, 6, 64, 100, 4, 0};
        return answers[which];
    }

    private static void fullObject() {
        Check.part("a full object, to its last call");
        TrustPaths x = new TrustPaths();
        for (int a = 0; a < 3; a++) {
            x.anchor(a, 10 * a);
        }
        for (int c = 0; c < 12; c++) {
            x.make(8 * (c % 3) + 7, c % 10);
        }
        for (int call = 16; call < CALLS; call += 2) {
            int c = call / 2 % 12;
            Check.due("depending", x.depending(c, 100), 1, call);
            Check.due("make", x.make(0, 0), FULL, call);
        }
        Check.due("count, call 512", x.count(100), 12);
    }

    /** Eleven that all follow each other, and one they do not lead to: no list is left untried. */
    private static void slowestQuestions() {
        Check.part("twelve certificates, and the most lists that a question can meet");
        TrustPaths x = new TrustPaths();
        x.anchor(0, 0);
        for (int c = 0; c < 11; c++) {
            x.make(0, 0);
        }
        x.make(1, 13);
        Check.due("trusted", x.trusted(11, 50), 0);
        Check.due("length", x.length(11, 50), NONE);
        Check.due("policies", x.policies(11, 50), 0);
        Check.due("keysOf", x.keysOf(1, 50, 0), 0);
        Check.due("until", x.until(11, 0), NONE);
        Check.due("narrow", x.narrow(11, 50), NONE);
        Check.due("depending", x.depending(11, 50), 0);
        Check.due("count", x.count(50), 11);
        x.anchor(2, 1);
        Check.due("count, all twelve", x.count(50), 12);
        Check.due("until", x.until(11, 0), 100);
    }

    /** What they answer is free, but by LANGUAGE.md no call may ever throw or fail to end. */
    private static void laterCalls() {
        Check.part("calls after the 512th");
        int[] values = {Check.LEAST, -33, -1, 0, 1, 2, 3, 4, 7, 11, 12, 15, 32, 63, 79, 100, 101, 255, Check.GREATEST};
        TrustPaths x = new TrustPaths();
        long seed = 1;
        for (int call = 1; call <= 40 * CALLS; call++) {
            seed = seed * 6364136223846793005L + 1442695040888963407L;
            int a = values[(int) (seed >>> 40) % values.length];
            int b = values[(int) (seed >>> 45) % values.length];
            int c = values[(int) (seed >>> 50) % values.length];
            any(x, call % 16, a, b, c);
        }
    }

    private static int any(TrustPaths x, int method, int a, int b, int c) {
        switch (method) {
            case 0: return x.make(a, b);
            case 1: return x.times(a, b, c);
            case 2: return x.set(a, b, c);
            case 3: return x.revoke(a, b);
            case 4: return x.hold(a, b < c);
            case 5: return x.anchor(a, b);
            case 6: return x.distrust(a);
            case 7: return x.trusted(a, b);
            case 8: return x.length(a, b);
            case 9: return x.step(a, b, c);
            case 10: return x.policies(a, b);
            case 11: return x.count(b);
            case 12: return x.keysOf(a, b, c);
            case 13: return x.until(a, b);
            case 14: return x.depending(a, b);
            default: return x.narrow(a, b);
        }
    }
}
