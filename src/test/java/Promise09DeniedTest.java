/** Promise 9: denied, how many asks the meter has not granted since it was made. */
public final class Promise09DeniedTest {
    public static void main(String[] args) {
        RateLimits x = new RateLimits();
        for (int m : Answers.NOT_METERS) {
            Answers.due("denied(" + m + ")", x.denied(m), RateLimits.BAD_METER);
        }
        for (int kind = 0; kind <= 2; kind++) {
            kind(kind);
        }
        Answers.end();
    }

    private static void kind(int kind) {
        RateLimits x = new RateLimits();
        String k = "kind " + kind + ": ";
        for (int m = 0; m < 4; m++) {
            x.set(m, kind, Answers.numbers(1, 5 + m, 3));
        }
        x.ask(0, 5);
        Answers.due(k + "granted ask: denied(0)", x.denied(0), 0);
        x.ask(0, 4);
        x.ask(0, 20);
        // Asks are counted, not their costs.
        Answers.due(k + "two asks: denied(0)", x.denied(0), 2);
        Answers.due(k + "two asks: denied(1)", x.denied(1), 0);
        // The meters 0 and 1 would not, 2 and 3 would; only those asked count.
        x.askAll(15, 7);
        Answers.due(k + "askAll(15, 7): denied(0)", x.denied(0), 3);
        Answers.due(k + "askAll(15, 7): denied(1)", x.denied(1), 1);
        Answers.due(k + "askAll(15, 7): denied(2)", x.denied(2), 0);
        Answers.due(k + "askAll(15, 7): denied(3)", x.denied(3), 0);
        x.askAll(14, 20);
        Answers.due(k + "askAll(14, 20): denied(0)", x.denied(0), 3);
        Answers.due(k + "askAll(14, 20): denied(1)", x.denied(1), 2);
        Answers.due(k + "askAll(14, 20): denied(2)", x.denied(2), 1);
        Answers.due(k + "askAll(14, 20): denied(3)", x.denied(3), 1);
        x.askAll(14, 2);
        Answers.due(k + "granted askAll: denied(1)", x.denied(1), 2);
        x.ask(0, 0);
        x.ask(0, 21);
        x.askAll(15, 0);
        x.waitFor(0, 20);
        x.room(0);
        Answers.due(k + "refused or looked at: denied(0)", x.denied(0), 3);
        x.pass(1000);
        Answers.due(k + "later: denied(0)", x.denied(0), 3);
        x.set(0, 3, Answers.numbers(1, 5, 3));
        Answers.due(k + "set refused: denied(0)", x.denied(0), 3);
        x.set(0, kind, Answers.numbers(1, 5, 3));
        Answers.due(k + "made anew: denied(0)", x.denied(0), 0);
        Answers.due(k + "another made anew: denied(1)", x.denied(1), 2);
    }
}
