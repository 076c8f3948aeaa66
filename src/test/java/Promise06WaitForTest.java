/** Promise 6: waitFor, for each kind, with its refusals. */
public final class Promise06WaitForTest {
    public static void main(String[] args) {
        wrongArguments();
        never();
        bucket();
        log();
        spacer();
        isTheLeast();
        Answers.end();
    }

    private static void wrongArguments() {
        RateLimits x = new RateLimits();
        for (int m : Answers.NOT_METERS) {
            Answers.due("waitFor(" + m + ", 1)", x.waitFor(m, 1), RateLimits.BAD_METER);
            Answers.due("waitFor(" + m + ", 0)", x.waitFor(m, 0), RateLimits.BAD_METER);
            Answers.due("waitFor(" + m + ", 20)", x.waitFor(m, 20), RateLimits.BAD_METER);
        }
        for (int cost : Answers.NOT_COSTS) {
            Answers.due("waitFor(0, " + cost + ")", x.waitFor(0, cost), RateLimits.BAD_NUMBER);
        }
    }

    private static void never() {
        for (int kind = 0; kind <= 2; kind++) {
            for (int burst = 1; burst <= 30; burst++) {
                RateLimits x = new RateLimits();
                x.set(0, kind, Answers.numbers(5, burst, 1));
                for (int cost = 1; cost <= 20; cost++) {
                    Answers.due("kind " + kind + ", burst " + burst + ": waitFor(0, " + cost + ")",
                        x.waitFor(0, cost), cost > burst ? RateLimits.FULL : 0);
                }
            }
        }
    }

    private static void bucket() {
        RateLimits x = new RateLimits();
        x.set(0, Answers.BUCKET, Answers.numbers(3, 20, 1));
        x.ask(0, 19);
        int[] waits = {0, 1, 1, 1, 2, 2, 2, 3};
        for (int cost = 1; cost <= 8; cost++) {
            Answers.due("waitFor(0, " + cost + ")", x.waitFor(0, cost), waits[cost - 1]);
        }
        Answers.due("waitFor(0, 19)", x.waitFor(0, 19), 6);
        Answers.due("waitFor(0, 20)", x.waitFor(0, 20), 7);
    }

    private static void log() {
        RateLimits x = new RateLimits();
        x.set(1, Answers.LOG, Answers.numbers(1, 10, 6));
        x.ask(1, 4);
        x.pass(2);
        x.ask(1, 3);
        x.ask(1, 1);
        x.pass(1);
        Answers.due("waitFor(1, 2)", x.waitFor(1, 2), 0);
        Answers.due("waitFor(1, 3)", x.waitFor(1, 3), 3);
        Answers.due("waitFor(1, 6)", x.waitFor(1, 6), 3);
        Answers.due("waitFor(1, 7)", x.waitFor(1, 7), 5);
        Answers.due("waitFor(1, 10)", x.waitFor(1, 10), 5);
    }

    private static void spacer() {
        RateLimits x = new RateLimits();
        x.set(2, Answers.SPACER, Answers.numbers(1, 30, 10));
        x.pass(7);
        x.ask(2, 20);
        Answers.due("waitFor(2, 10)", x.waitFor(2, 10), 0);
        Answers.due("waitFor(2, 11)", x.waitFor(2, 11), 10);
        x.ask(2, 10);
        Answers.due("waitFor(2, 1)", x.waitFor(2, 1), 10);
        Answers.due("waitFor(2, 20)", x.waitFor(2, 20), 200);
        x.pass(3);
        Answers.due("waitFor(2, 1)", x.waitFor(2, 1), 7);
        // The longest wait there is: the whole burst, as soon as it is used up.
        x.set(3, Answers.SPACER, Answers.numbers(1, 20, 10));
        x.ask(3, 20);
        Answers.due("waitFor(3, 20)", x.waitFor(3, 20), 200);
        x.set(3, Answers.SPACER, Answers.numbers(1, 1, 10));
        x.ask(3, 1);
        Answers.due("waitFor(3, 1)", x.waitFor(3, 1), 10);
    }

    /** One unit before the answer the ask isn't granted, at the answer it is. */
    private static void isTheLeast() {
        for (int kind = 0; kind <= 2; kind++) {
            for (int cost = 1; cost <= 20; cost++) {
                int wait = used(kind).waitFor(1, cost);
                RateLimits x = used(kind);
                x.pass(wait);
                Answers.due("kind " + kind + " after " + wait + ": ask(1, " + cost + ")",
                    x.ask(1, cost), 1);
                if (wait > 0) {
                    RateLimits y = used(kind);
                    y.pass(wait - 1);
                    Answers.due("kind " + kind + " after " + (wait - 1) + ": ask(1, " + cost + ")",
                        y.ask(1, cost), 0);
                }
            }
        }
    }

    private static RateLimits used(int kind) {
        RateLimits x = new RateLimits();
        x.set(1, kind, Answers.numbers(2, 23, 7));
        x.ask(1, 9);
        x.pass(2);
        x.ask(1, 8);
        x.pass(1);
        x.ask(1, 4);
        return x;
    }
}
