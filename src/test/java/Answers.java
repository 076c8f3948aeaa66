/** What the project's tests share: compares answers, and ends the test. */
final class Answers {
    static final int BUCKET = 0;
    static final int LOG = 1;
    static final int SPACER = 2;

    private static final int MIN = Integer.MIN_VALUE;
    private static final int MAX = Integer.MAX_VALUE;

    // Just outside the range, far outside it, and numbers whose low bits alone
    // would be inside it.
    static final int[] NOT_METERS = {-1, 4, 5, -4, 256, 65537, MIN, MIN + 1, MAX - 1, MAX};
    static final int[] NOT_KINDS = {-1, 3, 4, -3, 256, 65537, MIN, MIN + 1, MAX - 1, MAX};
    static final int[] NOT_COSTS = {0, -1, 21, 22, -20, 257, 65537, MIN, MIN + 1, MAX - 1, MAX};
    static final int[] NOT_UNITS = {-1, 1001, 1002, -1000, 65537, 100001, MIN, MIN + 1, MAX - 1, MAX};

    private static int looked = 0;
    private static int wrong = 0;
    private static String sentence = "";
    private static int lookedBeforeSentence = -1;

    private Answers() {
    }

    /** What follows, up to the next sentence, tests these words of the document. */
    static void sentence(String words) {
        endSentence();
        sentence = words;
        lookedBeforeSentence = looked;
    }

    private static void endSentence() {
        if (looked == lookedBeforeSentence) {
            wrong++;
            System.out.println("\"" + sentence + "\": no answer was looked at");
        }
    }

    private static void tell(String fault) {
        wrong++;
        System.out.println((sentence.isEmpty() ? "" : "\"" + sentence + "\": ") + fault);
    }

    static void due(String call, long got, long want) {
        looked++;
        if (got != want) {
            tell(call + " answered " + got + ", due is " + want);
        }
    }

    static void same(String what, String got, String want) {
        looked++;
        if (!got.equals(want)) {
            tell(what + ":\n  is  " + got + "\n  due " + want);
        }
    }

    static int numbers(int rate, int burst, int span) {
        return rate | burst << 3 | span << 8;
    }

    /** A new object whose meter 0 has this kind and these numbers. */
    static RateLimits with(int kind, int rate, int burst, int span) {
        RateLimits limits = new RateLimits();
        limits.set(0, kind, numbers(rate, burst, span));
        return limits;
    }

    /** An object with each of the kinds, none of them full and none empty. */
    static RateLimits used() {
        RateLimits limits = new RateLimits();
        limits.set(0, BUCKET, numbers(2, 30, 1));
        limits.set(1, LOG, numbers(1, 29, 6));
        limits.set(2, SPACER, numbers(1, 28, 4));
        limits.set(3, BUCKET, numbers(1, 30, 1));
        limits.pass(2);
        limits.askAll(15, 6);
        limits.pass(1);
        limits.askAll(7, 17);
        limits.askAll(12, 20);
        limits.ask(1, 20);
        return limits;
    }

    /** An object with each of the kinds, with room for 12, 11, 10 and 9. */
    static RateLimits mixed() {
        RateLimits limits = new RateLimits();
        limits.set(0, BUCKET, numbers(2, 12, 1));
        limits.set(1, LOG, numbers(1, 11, 5));
        limits.set(2, SPACER, numbers(1, 10, 3));
        limits.set(3, LOG, numbers(1, 9, 2));
        return limits;
    }

    /** Takes out costs of 1 until one is not granted, and answers how many were. */
    static int drain(RateLimits limits, int meter) {
        int count = 0;
        while (count <= 100 && limits.ask(meter, 1) == 1) {
            count++;
        }
        return count;
    }

    /** Moves the time of a new object on to the given one. */
    static void passTo(RateLimits limits, int time) {
        while (limits.time() + 1000 <= time) {
            limits.pass(1000);
        }
        limits.pass(time - limits.time());
    }

    /** Every answer that tells of the state, so that two moments can be compared. */
    static String state(RateLimits limits) {
        StringBuilder text = new StringBuilder("time " + limits.time());
        for (int meter = 0; meter < 4; meter++) {
            text.append("; meter ").append(meter)
                .append(" room ").append(limits.room(meter))
                .append(" granted ").append(limits.granted(meter))
                .append(" denied ").append(limits.denied(meter))
                .append(" waits");
            for (int cost = 1; cost <= 20; cost++) {
                text.append(' ').append(limits.waitFor(meter, cost));
            }
        }
        return text.toString();
    }

    private static String stateButDenied(RateLimits limits) {
        return state(limits).replaceAll(" denied \\d+", "");
    }

    /**
     * The two objects answer alike, now and in what comes: a bucket with more than
     * 20 tokens, for one, shows how many only after it has been asked.
     */
    static void alike(String what, RateLimits got, RateLimits want) {
        same(what, state(got), state(want));
        goOn(what, got, want);
        same(what + ", and later", state(got), state(want));
    }

    /** Alike but for what denied answers: an ask that was not granted is counted. */
    static void alikeButDenied(String what, RateLimits got, RateLimits want) {
        same(what, stateButDenied(got), stateButDenied(want));
        goOn(what, got, want);
        same(what + ", and later", stateButDenied(got), stateButDenied(want));
    }

    private static void goOn(String what, RateLimits got, RateLimits want) {
        for (int cost : new int[] {20, 7, 1}) {
            for (int meter = 0; meter < 4; meter++) {
                due(what + ", then ask(" + meter + ", " + cost + ")",
                    got.ask(meter, cost), want.ask(meter, cost));
                due(what + ", then room(" + meter + ")", got.room(meter), want.room(meter));
            }
            due(what + ", then pass(3)", got.pass(3), want.pass(3));
        }
    }

    static void end() {
        endSentence();
        System.out.println(looked + " answers, " + wrong + " not as due");
        if (wrong != 0 || looked == 0) {
            System.exit(1);
        }
    }
}
