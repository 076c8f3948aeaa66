/** Promise 3: ask, for each kind of meter, and its refusals. */
public final class Promise03AskTest {
    public static void main(String[] args) {
        wrongArguments();
        bucket();
        log();
        logAtOneTime();
        spacer();
        spacerAtTimeZero();
        costAboveBurst();
        Answers.end();
    }

    private static void wrongArguments() {
        RateLimits x = new RateLimits();
        x.ask(0, 3);
        String before = Answers.state(x);
        for (int m : Answers.NOT_METERS) {
            Answers.due("ask(" + m + ", 1)", x.ask(m, 1), RateLimits.BAD_METER);
            Answers.due("ask(" + m + ", 0)", x.ask(m, 0), RateLimits.BAD_METER);
        }
        for (int cost : Answers.NOT_COSTS) {
            for (int m = 0; m < 4; m++) {
                Answers.due("ask(" + m + ", " + cost + ")", x.ask(m, cost), RateLimits.BAD_NUMBER);
            }
        }
        Answers.same("refused asks", Answers.state(x), before);
    }

    private static void bucket() {
        RateLimits x = new RateLimits();
        x.set(3, Answers.BUCKET, Answers.numbers(3, 7, 9));
        Answers.due("ask(3, 8)", x.ask(3, 8), 0);
        Answers.due("ask(3, 5)", x.ask(3, 5), 1);
        Answers.due("ask(3, 3)", x.ask(3, 3), 0);
        Answers.due("ask(3, 2)", x.ask(3, 2), 1);
        Answers.due("ask(3, 1)", x.ask(3, 1), 0);
        x.pass(1);
        Answers.due("after 1: ask(3, 4)", x.ask(3, 4), 0);
        Answers.due("after 1: ask(3, 3)", x.ask(3, 3), 1);
        // 2 units add 6, the third only one more: the burst is 7.
        x.pass(3);
        Answers.due("after 4: ask(3, 8)", x.ask(3, 8), 0);
        Answers.due("after 4: ask(3, 7)", x.ask(3, 7), 1);
        x.pass(1000);
        Answers.due("after 1004: ask(3, 7)", x.ask(3, 7), 1);
        Answers.due("after 1004: ask(3, 1)", x.ask(3, 1), 0);
    }

    private static void log() {
        RateLimits x = new RateLimits();
        x.set(1, Answers.LOG, Answers.numbers(5, 10, 4));
        x.pass(1);
        Answers.due("at 1: ask(1, 6)", x.ask(1, 6), 1);
        x.pass(2);
        Answers.due("at 3: ask(1, 5)", x.ask(1, 5), 0);
        Answers.due("at 3: ask(1, 3)", x.ask(1, 3), 1);
        x.pass(1);
        Answers.due("at 4: ask(1, 2)", x.ask(1, 2), 0);
        x.pass(1);
        // The ask at 1 is not later than 5 - 4 any more; the one at 3 is.
        Answers.due("at 5: ask(1, 8)", x.ask(1, 8), 0);
        Answers.due("at 5: ask(1, 7)", x.ask(1, 7), 1);
        x.pass(2);
        Answers.due("at 7: ask(1, 4)", x.ask(1, 4), 0);
        Answers.due("at 7: ask(1, 3)", x.ask(1, 3), 1);
        x.pass(1000);
        Answers.due("at 1007: ask(1, 10)", x.ask(1, 10), 1);
    }

    private static void logAtOneTime() {
        RateLimits x = new RateLimits();
        x.set(0, Answers.LOG, Answers.numbers(1, 30, 10));
        x.set(1, Answers.LOG, Answers.numbers(1, 2, 1));
        for (int i = 0; i < 30; i++) {
            Answers.due("ask(0, 1), time " + (i + 1), x.ask(0, 1), 1);
        }
        Answers.due("ask(0, 1), time 31", x.ask(0, 1), 0);
        x.pass(9);
        Answers.due("at 9: ask(0, 1)", x.ask(0, 1), 0);
        x.pass(1);
        Answers.due("at 10: ask(0, 20)", x.ask(0, 20), 1);
        // With span 1 only the present time counts.
        Answers.due("ask(1, 2)", x.ask(1, 2), 1);
        Answers.due("ask(1, 1)", x.ask(1, 1), 0);
        x.pass(0);
        Answers.due("after pass(0): ask(1, 1)", x.ask(1, 1), 0);
        x.pass(1);
        Answers.due("after pass(1): ask(1, 2)", x.ask(1, 2), 1);
    }

    private static void spacer() {
        RateLimits x = new RateLimits();
        x.set(2, Answers.SPACER, Answers.numbers(5, 4, 3));
        x.pass(10);
        Answers.due("at 10: ask(2, 5)", x.ask(2, 5), 0);
        Answers.due("at 10: ask(2, 2)", x.ask(2, 2), 1);
        // Due is 16: one more of cost 2 reaches 22, which is 12 ahead.
        Answers.due("at 10: ask(2, 3)", x.ask(2, 3), 0);
        Answers.due("at 10: ask(2, 2) again", x.ask(2, 2), 1);
        Answers.due("at 10: ask(2, 1)", x.ask(2, 1), 0);
        x.pass(2);
        Answers.due("at 12: ask(2, 1)", x.ask(2, 1), 0);
        x.pass(1);
        Answers.due("at 13: ask(2, 1)", x.ask(2, 1), 1);
        // Due is 25; at 30 the greater time is the present one.
        x.pass(17);
        Answers.due("at 30: ask(2, 4)", x.ask(2, 4), 1);
        x.pass(11);
        Answers.due("at 41: ask(2, 4)", x.ask(2, 4), 0);
        x.pass(1);
        Answers.due("at 42: ask(2, 4)", x.ask(2, 4), 1);
    }

    private static void spacerAtTimeZero() {
        RateLimits x = new RateLimits();
        x.set(0, Answers.SPACER, Answers.numbers(1, 1, 1));
        Answers.due("at 0: ask(0, 2)", x.ask(0, 2), 0);
        Answers.due("at 0: ask(0, 1)", x.ask(0, 1), 1);
        Answers.due("at 0: ask(0, 1) again", x.ask(0, 1), 0);
        x.pass(1);
        Answers.due("at 1: ask(0, 1)", x.ask(0, 1), 1);
    }

    private static void costAboveBurst() {
        for (int kind = 0; kind <= 2; kind++) {
            RateLimits x = new RateLimits();
            x.set(0, kind, Answers.numbers(5, 19, 10));
            String before = Answers.state(x);
            Answers.due("kind " + kind + ": ask(0, 20)", x.ask(0, 20), 0);
            Answers.same("kind " + kind + ": not granted, but counted",
                Answers.state(x), before.replaceFirst("denied 0", "denied 1"));
            Answers.due("kind " + kind + ": ask(0, 19)", x.ask(0, 19), 1);
            Answers.due("kind " + kind + ": room(0)", x.room(0), 0);
        }
    }
}
