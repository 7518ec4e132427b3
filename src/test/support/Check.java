/** What the tests share: comparing answers, and objects to begin with. */
final class Check {
    static final int BAD = -1;
    static final int NONE = -2;
    static final int FULL = -3;
    static final int LEAST = Integer.MIN_VALUE;
    static final int GREATEST = Integer.MAX_VALUE;

    private static final int MOST_SHOWN = 40;

    private static int wrong = 0;
    private static String part = "";

    private Check() {
    }

    /** Names the promise or the sentence of the document that the next answers belong to. */
    static void part(String text) {
        part = text;
    }

    /** The arguments are only for the message: a text for each of a million answers is slow. */
    static void due(String call, int got, int want, int... arguments) {
        if (got == want) {
            return;
        }
        wrong++;
        if (wrong <= MOST_SHOWN) {
            System.out.println(part + ": " + call + text(arguments) + " answered " + got + ", due is " + want);
        }
    }

    private static String text(int[] arguments) {
        StringBuilder text = new StringBuilder();
        for (int argument : arguments) {
            text.append(text.length() == 0 ? " [" : ", ").append(argument);
        }
        return text.length() == 0 ? "" : text.append("]").toString();
    }

    static void end() {
        if (wrong > 0) {
            System.out.println(wrong + " wrong");
            System.exit(1);
        }
    }

    /** Makes a certificate by which a name says who another one is; the key has the name's number. */
    static int link(TrustPaths x, int issuer, int subject) {
        return x.make(8 * issuer + subject, 10 * issuer + subject);
    }

    /** Name and key n issue to name and key n + 1, for n = 0 .. size - 1; the anchor is 0 with 0. */
    static TrustPaths line(int size) {
        TrustPaths x = new TrustPaths();
        x.anchor(0, 0);
        for (int n = 0; n < size; n++) {
            due("make in a line", link(x, n, n + 1), n);
        }
        return x;
    }
}
