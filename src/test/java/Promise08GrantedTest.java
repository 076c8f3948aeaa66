/** Promise 8: granted, the sum of the costs since the meter was made. */
public final class Promise08GrantedTest {
    public static void main(String[] args) {
        RateLimits x = new RateLimits();
        for (int m : Answers.NOT_METERS) {
            Answers.due("granted(" + m + ")", x.granted(m), RateLimits.BAD_METER);
        }
        for (int kind = 0; kind <= 2; kind++) {
            kind(kind);
        }
        Answers.end();
    }

    private static void kind(int kind) {
        RateLimits x = new RateLimits();
        String k = "kind " + kind + ": ";
        for (int m = 0; m < 4; m++) {
            x.set(m, kind, Answers.numbers(5, 20, 2));
        }
        x.ask(1, 20);
        Answers.due(k + "granted(1)", x.granted(1), 20);
        x.ask(1, 1);
        Answers.due(k + "not granted: granted(1)", x.granted(1), 20);
        x.askAll(3, 2);
        Answers.due(k + "askAll not granted: granted(0)", x.granted(0), 0);
        Answers.due(k + "askAll not granted: granted(1)", x.granted(1), 20);
        x.pass(1000);
        Answers.due(k + "later: granted(1)", x.granted(1), 20);
        x.askAll(11, 7);
        Answers.due(k + "askAll: granted(0)", x.granted(0), 7);
        Answers.due(k + "askAll: granted(1)", x.granted(1), 27);
        Answers.due(k + "askAll: granted(2)", x.granted(2), 0);
        Answers.due(k + "askAll: granted(3)", x.granted(3), 7);
        x.ask(1, 0);
        x.ask(1, 21);
        x.askAll(15, 21);
        Answers.due(k + "refused: granted(1)", x.granted(1), 27);
        x.waitFor(1, 3);
        x.room(1);
        Answers.due(k + "looked at: granted(1)", x.granted(1), 27);
        x.set(1, kind, 0);
        Answers.due(k + "set refused: granted(1)", x.granted(1), 27);
        x.set(1, kind, Answers.numbers(5, 20, 2));
        Answers.due(k + "made anew: granted(1)", x.granted(1), 0);
        Answers.due(k + "another made anew: granted(0)", x.granted(0), 7);
    }
}
