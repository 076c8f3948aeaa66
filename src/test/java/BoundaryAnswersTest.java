/** The boundary cases that promises 6 to 10 name, sentence by sentence. */
public final class BoundaryAnswersTest {
    public static void main(String[] args) {
        waitAtLeast();
        waitZero();
        waitCosts();
        waitNever();
        roomUpToTwenty();
        roomZero();
        grantedSinceMade();
        deniedSinceMade();
        deniedByAskAll();
        theTime();
        Answers.end();
    }

    private static void waitAtLeast() {
        Answers.sentence("How long one has to wait, at least, until an ask of this cost would be "
            + "granted if no other came before");
        for (int kind = 0; kind <= 2; kind++) {
            for (int cost = 1; cost <= 20; cost++) {
                for (int span = 1; span <= 10; span++) {
                    int rate = (span + 1) / 2;
                    RateLimits x = emptied(kind, rate, 25, span);
                    int wait = x.waitFor(0, cost);
                    int[] due = {(cost + rate - 1) / rate, span, cost * span};
                    String k = "kind " + kind + ", rate " + rate + ", span " + span + ": ";
                    Answers.due(k + "waitFor(0, " + cost + ")", wait, due[kind]);
                    x.pass(wait - 1);
                    Answers.due(k + "one too early: waitFor(0, " + cost + ")", x.waitFor(0, cost), 1);
                    Answers.due(k + "one too early: ask(0, " + cost + ")", x.ask(0, cost), 0);
                    x.pass(1);
                    Answers.due(k + "then: waitFor(0, " + cost + ")", x.waitFor(0, cost), 0);
                    Answers.due(k + "then: ask(0, " + cost + ")", x.ask(0, cost), 1);
                }
            }
        }
        // The longest waits of each kind.
        Answers.due("bucket", emptied(Answers.BUCKET, 1, 20, 10).waitFor(0, 20), 20);
        Answers.due("log", emptied(Answers.LOG, 1, 20, 10).waitFor(0, 20), 10);
        Answers.due("spacer", emptied(Answers.SPACER, 1, 20, 10).waitFor(0, 20), 200);
        Answers.due("spacer, burst 30", emptied(Answers.SPACER, 1, 30, 10).waitFor(0, 20), 200);
        // A wait is answered even where time ends before it does.
        RateLimits x = new RateLimits();
        Answers.passTo(x, 100000);
        x.ask(0, 10);
        Answers.due("at 100000: waitFor(0, 10)", x.waitFor(0, 10), 10);
    }

    private static RateLimits emptied(int kind, int rate, int burst, int span) {
        RateLimits x = Answers.with(kind, rate, burst, span);
        Answers.drain(x, 0);
        return x;
    }

    private static void waitZero() {
        Answers.sentence("(0 if it would be now)");
        for (int kind = 0; kind <= 2; kind++) {
            for (int burst = 1; burst <= 30; burst++) {
                RateLimits x = Answers.with(kind, 1, burst, 4);
                for (int left = burst; left >= 0; left--) {
                    String k = "kind " + kind + ", " + left + " of " + burst + " left: ";
                    int fits = Math.min(20, left);
                    if (fits > 0) {
                        Answers.due(k + "waitFor(0, " + fits + ")", x.waitFor(0, fits), 0);
                    }
                    if (left < burst && left < 20) {
                        int wait = x.waitFor(0, left + 1);
                        Answers.due(k + "waitFor(0, " + (left + 1) + ")", wait, kind == 0 ? 1 : 4);
                    }
                    x.ask(0, 1);
                }
            }
        }
    }

    private static void waitCosts() {
        Answers.sentence("waitFor: cost not in 1 to 20: BAD_NUMBER");
        for (int kind = 0; kind <= 2; kind++) {
            for (int burst : new int[] {1, 19, 20, 21, 30}) {
                RateLimits x = Answers.with(kind, 5, burst, 10);
                // Above the burst or not: the number is tested before that.
                for (int cost : Answers.NOT_COSTS) {
                    Answers.due("kind " + kind + ", burst " + burst + ": waitFor(0, " + cost + ")",
                        x.waitFor(0, cost), RateLimits.BAD_NUMBER);
                }
            }
        }
    }

    private static void waitNever() {
        Answers.sentence("never (the cost is above the burst): FULL");
        for (int kind = 0; kind <= 2; kind++) {
            for (int burst = 1; burst <= 30; burst++) {
                RateLimits x = Answers.with(kind, 5, burst, 10);
                RateLimits y = emptied(kind, 5, burst, 10);
                for (int cost = 1; cost <= 20; cost++) {
                    String k = "kind " + kind + ", burst " + burst + ": ";
                    boolean never = cost > burst;
                    Answers.due(k + "waitFor(0, " + cost + ")", x.waitFor(0, cost),
                        never ? RateLimits.FULL : 0);
                    Answers.due(k + "used up, waitFor(0, " + cost + ") is FULL",
                        y.waitFor(0, cost) == RateLimits.FULL ? 1 : 0, never ? 1 : 0);
                }
            }
        }
    }

    private static void roomUpToTwenty() {
        Answers.sentence("The greatest cost, up to 20, of an ask that would be granted now");
        for (int kind = 0; kind <= 2; kind++) {
            for (int burst = 1; burst <= 30; burst++) {
                RateLimits x = Answers.with(kind, 1, burst, 4);
                for (int left = burst; left >= 1; left--) {
                    Answers.due("kind " + kind + ", " + left + " of " + burst + " left: room(0)",
                        x.room(0), Math.min(20, left));
                    x.ask(0, 1);
                }
            }
        }
        // A spacer's room comes back a whole span at a time.
        for (int later = 0; later <= 310; later++) {
            RateLimits x = emptied(Answers.SPACER, 1, 30, 10);
            x.pass(later);
            Answers.due("spacer, " + later + " later: room(0)", x.room(0), Math.min(20, later / 10));
        }
    }

    private static void roomZero() {
        Answers.sentence("0 if none would be");
        for (int kind = 0; kind <= 2; kind++) {
            for (int burst = 1; burst <= 30; burst++) {
                RateLimits x = emptied(kind, 2, burst, 3);
                String k = "kind " + kind + ", burst " + burst + ", used up, ";
                Answers.due(k + "room(0)", x.room(0), 0);
                x.pass(0);
                Answers.due(k + "pass(0), room(0)", x.room(0), 0);
                x.pass(kind == 0 ? 1 : 2);
                Answers.due(k + "later, room(0)", x.room(0), kind == 0 ? Math.min(2, burst) : 0);
                x.pass(1);
                int[] due = {Math.min(4, burst), Math.min(20, burst), 1};
                Answers.due(k + "later still, room(0)", x.room(0), due[kind]);
            }
        }
    }

    private static void grantedSinceMade() {
        Answers.sentence("The sum of the costs granted by the meter since it was made.");
        for (int kind = 0; kind <= 2; kind++) {
            for (int m = 0; m <= 3; m++) {
                RateLimits x = new RateLimits();
                String k = "kind " + kind + ", meter " + m + ": ";
                Answers.due(k + "new", x.granted(m), 0);
                x.ask(m, 10);
                Answers.due(k + "as it was at the start", x.granted(m), 10);
                x.set(m, kind, Answers.numbers(5, 20, 1));
                Answers.due(k + "made anew", x.granted(m), 0);
                x.ask(m, 20);
                x.ask(m, 1);
                x.askAll(15, 1);
                Answers.due(k + "not granted is not in it", x.granted(m), 20);
                x.pass(1000);
                x.askAll(1 << m, 20);
                Answers.due(k + "above the burst", x.granted(m), 40);
                x.ask(m, 0);
                x.ask(m, 21);
                x.askAll(1 << m, 0);
                x.set(m, 3, Answers.numbers(5, 20, 1));
                x.set(m, kind, Answers.numbers(5, 31, 1));
                x.set((m + 1) % 4, kind, Answers.numbers(5, 20, 1));
                Answers.due(k + "refused, or another meter made anew", x.granted(m), 40);
                x.set(m, kind, Answers.numbers(5, 20, 1));
                Answers.due(k + "made anew with the same numbers", x.granted(m), 0);
            }
        }
    }

    private static void deniedSinceMade() {
        Answers.sentence("How many asks the meter has not granted since it was made");
        for (int kind = 0; kind <= 2; kind++) {
            for (int m = 0; m <= 3; m++) {
                RateLimits x = new RateLimits();
                String k = "kind " + kind + ", meter " + m + ": ";
                Answers.due(k + "new", x.denied(m), 0);
                x.ask(m, 11);
                Answers.due(k + "as it was at the start", x.denied(m), 1);
                x.set(m, kind, Answers.numbers(5, 19, 1));
                Answers.due(k + "made anew", x.denied(m), 0);
                x.ask(m, 20);
                x.ask(m, 20);
                Answers.due(k + "asks, not costs", x.denied(m), 2);
                x.ask(m, 19);
                Answers.due(k + "granted is not in it", x.denied(m), 2);
                x.ask(m, 0);
                x.ask(m, 21);
                x.ask(m, Integer.MIN_VALUE);
                x.askAll(15, 21);
                x.waitFor(m, 20);
                x.waitFor(m, 1);
                x.room(m);
                x.set(m, -1, Answers.numbers(5, 19, 1));
                x.set(m, kind, Answers.numbers(5, 19, 11));
                x.set((m + 1) % 4, kind, Answers.numbers(5, 19, 1));
                Answers.due(k + "refused, looked at, or another made anew", x.denied(m), 2);
                x.pass(1000);
                Answers.due(k + "later", x.denied(m), 2);
                x.set(m, kind, Answers.numbers(5, 19, 1));
                Answers.due(k + "made anew with the same numbers", x.denied(m), 0);
            }
        }
    }

    private static void deniedByAskAll() {
        Answers.sentence("(an askAll that was not granted counts for those that would not have)");
        for (int kind = 0; kind <= 2; kind++) {
            for (int set = 0; set <= 15; set++) {
                for (int empty = 0; empty <= 15; empty++) {
                    RateLimits x = new RateLimits();
                    for (int m = 0; m <= 3; m++) {
                        x.set(m, kind, Answers.numbers(1, 9, 5));
                    }
                    x.askAll(empty, 9);
                    String call = "kind " + kind + ", " + empty + " used up: askAll(" + set + ", 1)";
                    Answers.due(call, x.askAll(set, 1), (set & empty) == 0 ? 1 : 0);
                    for (int m = 0; m <= 3; m++) {
                        Answers.due(call + ": denied(" + m + ")", x.denied(m),
                            (set & empty) >> m & 1);
                    }
                }
            }
        }
    }

    private static void theTime() {
        Answers.sentence("The time.");
        RateLimits x = new RateLimits();
        Answers.due("new", x.time(), 0);
        x.pass(0);
        Answers.due("pass(0)", x.time(), 0);
        x.pass(-1);
        x.pass(1001);
        Answers.due("pass refused", x.time(), 0);
        x.pass(1);
        Answers.due("pass(1)", x.time(), 1);
        x.set(0, Answers.SPACER, Answers.numbers(1, 30, 10));
        x.ask(0, 20);
        x.askAll(15, 5);
        x.waitFor(0, 20);
        x.room(0);
        x.granted(0);
        x.denied(0);
        Answers.due("other calls", x.time(), 1);
        Answers.passTo(x, 100000);
        Answers.due("the last time", x.time(), 100000);
        x.pass(1);
        Answers.due("pass was FULL", x.time(), 100000);
    }
}
