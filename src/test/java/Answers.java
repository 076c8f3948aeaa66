/** What the project's tests share: compares answers, and ends the test. */
final class Answers {
    static final int BUCKET = 0;
    static final int LOG = 1;
    static final int SPACER = 2;

    private static int looked = 0;
    private static int wrong = 0;

    private Answers() {
    }

    static void due(String call, long got, long want) {
        looked++;
        if (got != want) {
            wrong++;
            System.out.println(call + " answered " + got + ", due is " + want);
        }
    }

    static int numbers(int rate, int burst, int span) {
        return rate | burst << 3 | span << 8;
    }

    /** Every answer that tells of the state, so that two moments can be compared. */
    static String state(RateLimits limits) {
        StringBuilder text = new StringBuilder("time " + limits.time());
        for (int meter = 0; meter < 4; meter++) {
            text.append("; meter ").append(meter)
                .append(" room ").append(limits.room(meter))
                .append(" granted ").append(limits.granted(meter))
                .append(" denied ").append(limits.denied(meter))
                .append(" waits");
            for (int cost = 1; cost <= 20; cost++) {
                text.append(' ').append(limits.waitFor(meter, cost));
            }
        }
        return text.toString();
    }

    static void same(String what, String got, String want) {
        looked++;
        if (!got.equals(want)) {
            wrong++;
            System.out.println(what + ":\n  is  " + got + "\n  due " + want);
        }
    }

    static void end() {
        System.out.println(looked + " answers, " + wrong + " not as due");
        if (wrong != 0 || looked == 0) {
            System.exit(1);
        }
    }
}
