/** Promise 1: time 0; every meter is a full BUCKET, rate 1, burst 10, span 1. */
public final class Promise01NewObjectTest {
    public static void main(String[] args) {
        RateLimits x = new RateLimits();
        Answers.due("time()", x.time(), 0);
        for (int m = 0; m < 4; m++) {
            Answers.due("new: room(" + m + ")", x.room(m), 10);
            Answers.due("new: granted(" + m + ")", x.granted(m), 0);
            Answers.due("new: denied(" + m + ")", x.denied(m), 0);
            Answers.due("new: waitFor(" + m + ", 10)", x.waitFor(m, 10), 0);
            Answers.due("new: waitFor(" + m + ", 11)", x.waitFor(m, 11), RateLimits.FULL);
        }
        for (int m = 0; m < 4; m++) {
            Answers.due("ask(" + m + ", 10)", x.ask(m, 10), 1);
            // One unit for each token: a log of span 1 would be free after one.
            for (int cost = 1; cost <= 10; cost++) {
                Answers.due("empty: waitFor(" + m + ", " + cost + ")", x.waitFor(m, cost), cost);
            }
        }
        Answers.due("pass(1)", x.pass(1), 1);
        for (int m = 0; m < 4; m++) {
            Answers.due("after 1: room(" + m + ")", x.room(m), 1);
        }
        RateLimits y = new RateLimits();
        for (int m = 0; m < 4; m++) {
            y.set(m, Answers.BUCKET, Answers.numbers(1, 10, 1));
        }
        Answers.same("new object", Answers.state(new RateLimits()), Answers.state(y));

        // Objects do not share anything.
        Answers.due("another: room(0)", new RateLimits().room(0), 10);
        Answers.due("another: time()", new RateLimits().time(), 0);

        Answers.due("BAD_METER", RateLimits.BAD_METER, -1);
        Answers.due("BAD_KIND", RateLimits.BAD_KIND, -2);
        Answers.due("BAD_NUMBER", RateLimits.BAD_NUMBER, -3);
        Answers.due("FULL", RateLimits.FULL, -4);
        Answers.end();
    }
}
