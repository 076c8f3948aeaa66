/** Promise 5: pass moves the time on, up to 100000. */
public final class Promise05PassTest {
    public static void main(String[] args) {
        wrongUnits();
        answersTheTime();
        upToTheEnd();
        inOneStepOrMany();
        Answers.end();
    }

    private static void wrongUnits() {
        RateLimits x = new RateLimits();
        x.ask(0, 7);
        String before = Answers.state(x);
        for (int units : Answers.NOT_UNITS) {
            Answers.due("pass(" + units + ")", x.pass(units), RateLimits.BAD_NUMBER);
        }
        Answers.same("refused pass", Answers.state(x), before);
    }

    private static void answersTheTime() {
        RateLimits x = new RateLimits();
        Answers.due("pass(0)", x.pass(0), 0);
        Answers.due("pass(1)", x.pass(1), 1);
        Answers.due("pass(1000)", x.pass(1000), 1001);
        Answers.due("pass(0)", x.pass(0), 1001);
        Answers.due("pass(999)", x.pass(999), 2000);
    }

    private static void upToTheEnd() {
        RateLimits x = new RateLimits();
        x.set(2, Answers.SPACER, Answers.numbers(1, 30, 10));
        for (int i = 1; i <= 99; i++) {
            Answers.due("pass(1000), time " + i, x.pass(1000), 1000 * i);
        }
        Answers.due("pass(999)", x.pass(999), 99999);
        x.ask(0, 10);
        x.ask(2, 20);
        String before = Answers.state(x);
        Answers.due("at 99999: pass(2)", x.pass(2), RateLimits.FULL);
        Answers.due("at 99999: pass(1000)", x.pass(1000), RateLimits.FULL);
        Answers.due("at 99999: pass(1001)", x.pass(1001), RateLimits.BAD_NUMBER);
        Answers.due("at 99999: pass(-1)", x.pass(-1), RateLimits.BAD_NUMBER);
        Answers.same("refused pass near the end", Answers.state(x), before);
        Answers.due("at 99999: pass(1)", x.pass(1), 100000);
        Answers.due("at 100000: pass(0)", x.pass(0), 100000);
        Answers.due("at 100000: pass(1)", x.pass(1), RateLimits.FULL);
        Answers.due("at 100000: room(0)", x.room(0), 1);
        // A wait may lie beyond the last time: only a cost above the burst is FULL.
        Answers.due("at 100000: waitFor(0, 10)", x.waitFor(0, 10), 9);
        Answers.due("at 100000: waitFor(2, 20)", x.waitFor(2, 20), 99);
        Answers.due("at 100000: ask(2, 10)", x.ask(2, 10), 1);
    }

    private static void inOneStepOrMany() {
        for (int kind = 0; kind <= 2; kind++) {
            for (int units = 0; units <= 25; units++) {
                RateLimits x = used(kind);
                RateLimits y = used(kind);
                x.pass(units);
                for (int i = 0; i < units; i++) {
                    y.pass(1);
                }
                Answers.same("kind " + kind + ", " + units + " units",
                    Answers.state(x), Answers.state(y));
            }
        }
    }

    private static RateLimits used(int kind) {
        RateLimits x = new RateLimits();
        for (int m = 0; m < 4; m++) {
            x.set(m, kind, Answers.numbers(m + 1, 30 - m, 10 - m));
        }
        for (int i = 0; i < 5; i++) {
            x.askAll(15, 5);
            x.pass(1);
        }
        return x;
    }
}
