/** Promise 2: set makes a meter anew; BAD_METER, BAD_KIND, BAD_NUMBER in this order. */
public final class Promise02SetTest {
    private static final int GOOD = Answers.numbers(2, 12, 3);

    public static void main(String[] args) {
        everyNumbers();
        wrongArguments();
        refusedChangesNothing();
        bitsAboveAreNotLookedAt();
        makesAnew();
        numbersAreUsed();
        Answers.end();
    }

    private static void everyNumbers() {
        for (int kind = 0; kind <= 2; kind++) {
            for (int rate = 0; rate <= 7; rate++) {
                for (int burst = 0; burst <= 31; burst++) {
                    for (int span = 0; span <= 15; span++) {
                        boolean good = rate >= 1 && rate <= 5 && burst >= 1 && burst <= 30
                            && span >= 1 && span <= 10;
                        RateLimits x = new RateLimits();
                        int n = Answers.numbers(rate, burst, span);
                        Answers.due("set(0, " + kind + ", " + n + ")", x.set(0, kind, n),
                            good ? 0 : RateLimits.BAD_NUMBER);
                        Answers.due("room(0)", x.room(0), good ? Math.min(20, burst) : 10);
                    }
                }
            }
        }
    }

    private static void wrongArguments() {
        RateLimits x = new RateLimits();
        for (int m : Answers.NOT_METERS) {
            Answers.due("set(" + m + ", 0, good)", x.set(m, 0, GOOD), RateLimits.BAD_METER);
            Answers.due("set(" + m + ", 3, good)", x.set(m, 3, GOOD), RateLimits.BAD_METER);
            Answers.due("set(" + m + ", 3, 0)", x.set(m, 3, 0), RateLimits.BAD_METER);
            Answers.due("set(" + m + ", 0, 0)", x.set(m, 0, 0), RateLimits.BAD_METER);
        }
        for (int k : Answers.NOT_KINDS) {
            Answers.due("set(0, " + k + ", good)", x.set(0, k, GOOD), RateLimits.BAD_KIND);
            Answers.due("set(3, " + k + ", 0)", x.set(3, k, 0), RateLimits.BAD_KIND);
        }
        for (int m = 0; m < 4; m++) {
            for (int k = 0; k < 3; k++) {
                Answers.due("set(" + m + ", " + k + ", good)", x.set(m, k, GOOD), 0);
                Answers.due("set(" + m + ", " + k + ", 0)", x.set(m, k, 0), RateLimits.BAD_NUMBER);
            }
        }
    }

    private static void refusedChangesNothing() {
        for (int kind = 0; kind <= 2; kind++) {
            RateLimits x = new RateLimits();
            x.set(1, kind, GOOD);
            x.pass(5);
            x.ask(1, 7);
            x.ask(1, 20);
            String before = Answers.state(x);
            x.set(4, 0, GOOD);
            x.set(1, 3, GOOD);
            x.set(1, -1, GOOD);
            x.set(1, 0, Answers.numbers(0, 5, 5));
            x.set(1, 1, Answers.numbers(5, 31, 5));
            x.set(1, 2, Answers.numbers(5, 5, 11));
            Answers.same("refused set, kind " + kind, Answers.state(x), before);
        }
    }

    private static void bitsAboveAreNotLookedAt() {
        RateLimits x = new RateLimits();
        Answers.due("set, high bits", x.set(0, 0, GOOD | 0xFFFFF000), 0);
        Answers.due("room(0)", x.room(0), 12);
        for (int high = 1 << 12; high != 0; high <<= 1) {
            RateLimits y = new RateLimits();
            RateLimits z = new RateLimits();
            for (RateLimits one : new RateLimits[] {y, z}) {
                one.set(0, Answers.LOG, GOOD | (one == y ? high : 0));
                one.set(1, Answers.SPACER, GOOD | (one == y ? high : 0));
                one.askAll(3, 9);
            }
            Answers.same("set, high bit " + high, Answers.state(y), Answers.state(z));
        }
        Answers.due("set, one high bit", x.set(1, 2, Answers.numbers(1, 7, 1) | 1 << 12), 0);
        Answers.due("room(1)", x.room(1), 7);
        Answers.due("set(0, 0, -1)", x.set(0, 0, -1), RateLimits.BAD_NUMBER);
        Answers.due("set(0, 0, MIN)", x.set(0, 0, Integer.MIN_VALUE), RateLimits.BAD_NUMBER);
    }

    /** Whatever stood there, the meter is as one of the same kind that was never used. */
    private static void makesAnew() {
        for (int old = 0; old <= 2; old++) {
            for (int kind = 0; kind <= 2; kind++) {
                RateLimits x = new RateLimits();
                x.set(2, old, Answers.numbers(1, 9, 10));
                x.pass(3);
                x.ask(2, 9);
                x.ask(2, 9);
                x.ask(1, 4);
                Answers.due("set(2, " + kind + ", good)", x.set(2, kind, GOOD), 0);
                RateLimits y = new RateLimits();
                y.pass(3);
                y.ask(1, 4);
                y.set(2, kind, GOOD);
                Answers.same("anew, " + old + " to " + kind, Answers.state(x), Answers.state(y));
                Answers.due("granted(2)", x.granted(2), 0);
                Answers.due("denied(2)", x.denied(2), 0);
                Answers.due("time()", x.time(), 3);
                Answers.due("room(1) of another meter", x.room(1), 6);
                x.ask(2, 12);
                y.ask(2, 12);
                x.pass(1);
                y.pass(1);
                Answers.same("anew and used, " + old + " to " + kind,
                    Answers.state(x), Answers.state(y));
            }
        }
    }

    private static void numbersAreUsed() {
        RateLimits x = new RateLimits();
        x.set(0, Answers.BUCKET, Answers.numbers(5, 30, 1));
        x.set(1, Answers.LOG, Answers.numbers(1, 30, 10));
        x.set(2, Answers.SPACER, Answers.numbers(1, 30, 10));
        for (int m = 0; m < 3; m++) {
            x.ask(m, 20);
            x.ask(m, 10);
        }
        Answers.due("bucket, rate 5: waitFor(0, 20)", x.waitFor(0, 20), 4);
        Answers.due("log, span 10: waitFor(1, 1)", x.waitFor(1, 1), 10);
        Answers.due("spacer, span 10: waitFor(2, 1)", x.waitFor(2, 1), 10);
        Answers.due("spacer, span 10: waitFor(2, 20)", x.waitFor(2, 20), 200);
    }
}
