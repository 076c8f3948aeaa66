/** Promise 10: time, which only pass moves. */
public final class Promise10TimeTest {
    public static void main(String[] args) {
        RateLimits x = new RateLimits();
        Answers.due("new: time()", x.time(), 0);
        x.pass(0);
        Answers.due("pass(0): time()", x.time(), 0);
        x.pass(1);
        Answers.due("pass(1): time()", x.time(), 1);
        x.pass(1000);
        Answers.due("pass(1000): time()", x.time(), 1001);
        x.pass(-1);
        x.pass(1001);
        Answers.due("refused pass: time()", x.time(), 1001);
        x.set(0, Answers.SPACER, Answers.numbers(1, 5, 3));
        x.ask(0, 5);
        x.ask(0, 5);
        x.askAll(15, 1);
        x.waitFor(0, 5);
        x.room(0);
        x.granted(0);
        x.denied(0);
        Answers.due("other calls: time()", x.time(), 1001);
        for (int i = 0; i < 98; i++) {
            x.pass(1000);
        }
        x.pass(999);
        Answers.due("at the end: time()", x.time(), 100000);
        x.pass(1);
        Answers.due("FULL: time()", x.time(), 100000);
        Answers.end();
    }
}
