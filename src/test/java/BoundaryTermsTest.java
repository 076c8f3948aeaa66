/** The boundary cases that the document's first section and its Terms name, sentence by sentence. */
public final class BoundaryTermsTest {
    public static void main(String[] args) {
        fourMeters();
        fiveHundredAndTwelveCalls();
        timeOnlyGoesForward();
        costs();
        bucketFullAtTheStart();
        bucketAddsAsLongAsThereIsRoom();
        bucketGrants();
        logLooksBack();
        logGrants();
        spacerAtTheStart();
        spacerGrants();
        spacerDueTime();
        leastAndGreatestNumbers();
        eachKindUsesTheOnesThatItNames();
        testsInOrder();
        refusedChangesNothing();
        askingHowItStandsChangesNothing();
        badMeterFirst();
        Answers.end();
    }

    private static void fourMeters() {
        Answers.sentence("kept by four METERS (0 to 3)");
        RateLimits x = new RateLimits();
        for (int m = 0; m <= 3; m++) {
            Answers.due("ask(" + m + ", " + (m + 1) + ")", x.ask(m, m + 1), 1);
        }
        for (int m = 0; m <= 3; m++) {
            Answers.due("room(" + m + ")", x.room(m), 9 - m);
        }
        for (int m : Answers.NOT_METERS) {
            Answers.due("set(" + m + ", ..)", x.set(m, 0, Answers.numbers(1, 10, 1)),
                RateLimits.BAD_METER);
            Answers.due("ask(" + m + ", 1)", x.ask(m, 1), RateLimits.BAD_METER);
            Answers.due("waitFor(" + m + ", 1)", x.waitFor(m, 1), RateLimits.BAD_METER);
            Answers.due("room(" + m + ")", x.room(m), RateLimits.BAD_METER);
            Answers.due("granted(" + m + ")", x.granted(m), RateLimits.BAD_METER);
            Answers.due("denied(" + m + ")", x.denied(m), RateLimits.BAD_METER);
        }
    }

    private static void fiveHundredAndTwelveCalls() {
        Answers.sentence("An object is used for at most 512 calls after it has been made");
        for (int kind = 0; kind <= 2; kind++) {
            RateLimits x = new RateLimits();
            x.set(3, kind, Answers.numbers(1, 1, 1));
            for (int i = 2; i <= 511; i++) {
                x.ask(3, 2);
            }
            Answers.due("kind " + kind + ", call 512: denied(3)", x.denied(3), 510);

            RateLimits y = new RateLimits();
            y.set(3, kind, Answers.numbers(5, 20, 1));
            for (int i = 2; i <= 511; i += 2) {
                y.ask(3, 20);
                y.pass(20);
            }
            Answers.due("kind " + kind + ", call 512: granted(3)", y.granted(3), 255 * 20);

            // As many grants as there can be, all within one span.
            RateLimits z = new RateLimits();
            z.set(3, kind, Answers.numbers(5, 30, 10));
            for (int i = 2; i <= 511; i++) {
                z.askAll(8, 1);
            }
            Answers.due("kind " + kind + ", call 512: granted(3)", z.granted(3), 30);
        }
    }

    private static void timeOnlyGoesForward() {
        Answers.sentence("TIME is a whole number from 0 on that only goes forward.");
        RateLimits x = new RateLimits();
        Answers.due("new: time()", x.time(), 0);
        for (int units : Answers.NOT_UNITS) {
            Answers.due("at 0: pass(" + units + ")", x.pass(units), RateLimits.BAD_NUMBER);
            Answers.due("at 0: time()", x.time(), 0);
        }
        Answers.due("pass(1000)", x.pass(1000), 1000);
        for (int units : Answers.NOT_UNITS) {
            Answers.due("at 1000: pass(" + units + ")", x.pass(units), RateLimits.BAD_NUMBER);
            Answers.due("at 1000: time()", x.time(), 1000);
        }
    }

    private static void costs() {
        Answers.sentence("An ASK is for a COST of 1 to 20 at the present time");
        for (int kind = 0; kind <= 2; kind++) {
            String k = "kind " + kind + ": ";
            RateLimits x = Answers.with(kind, 1, 30, 10);
            for (int cost : Answers.NOT_COSTS) {
                Answers.due(k + "ask(0, " + cost + ")", x.ask(0, cost), RateLimits.BAD_NUMBER);
                Answers.due(k + "askAll(1, " + cost + ")", x.askAll(1, cost), RateLimits.BAD_NUMBER);
                Answers.due(k + "waitFor(0, " + cost + ")", x.waitFor(0, cost),
                    RateLimits.BAD_NUMBER);
            }
            Answers.due(k + "waitFor(0, 20)", x.waitFor(0, 20), 0);
            Answers.due(k + "ask(0, 20)", x.ask(0, 20), 1);
            Answers.due(k + "waitFor(0, 1)", x.waitFor(0, 1), 0);
            Answers.due(k + "ask(0, 1)", x.ask(0, 1), 1);
            Answers.due(k + "granted(0)", x.granted(0), 21);
            RateLimits y = Answers.with(kind, 1, 30, 10);
            Answers.due(k + "askAll(1, 20)", y.askAll(1, 20), 1);
            Answers.due(k + "askAll(1, 1)", y.askAll(1, 1), 1);
            Answers.due(k + "granted(0)", y.granted(0), 21);
        }
    }

    private static void bucketFullAtTheStart() {
        Answers.sentence("it holds up to BURST tokens, and is full at the start");
        for (int burst = 1; burst <= 30; burst++) {
            for (int rate = 1; rate <= 5; rate++) {
                String b = "rate " + rate + ", burst " + burst + ": ";
                Answers.due(b + "tokens at the start",
                    Answers.drain(Answers.with(Answers.BUCKET, rate, burst, 1), 0), burst);
                RateLimits full = Answers.with(Answers.BUCKET, rate, burst, 1);
                full.pass(1000);
                Answers.due(b + "tokens 1000 later", Answers.drain(full, 0), burst);
                full.pass(1000);
                Answers.due(b + "tokens 2000 later", Answers.drain(full, 0), burst);
            }
        }
    }

    private static void bucketAddsAsLongAsThereIsRoom() {
        Answers.sentence("every time unit adds RATE tokens, as long as there is room");
        for (int burst = 1; burst <= 30; burst++) {
            for (int rate = 1; rate <= 5; rate++) {
                for (int units = 0; units <= 31; units++) {
                    RateLimits x = Answers.with(Answers.BUCKET, rate, burst, 1);
                    Answers.drain(x, 0);
                    x.pass(units);
                    Answers.due("rate " + rate + ", burst " + burst + ", " + units + " units later",
                        Answers.drain(x, 0), Math.min(burst, rate * units));
                }
            }
        }
        // One token short of full: of 5 that come, 1 has room.
        RateLimits x = Answers.with(Answers.BUCKET, 5, 8, 1);
        x.ask(0, 1);
        x.pass(1);
        Answers.due("one short of full, 1 later", Answers.drain(x, 0), 8);
    }

    private static void bucketGrants() {
        Answers.sentence("An ask is granted if there are at least as many tokens as its cost, "
            + "which are then taken out.");
        for (int tokens = 0; tokens <= 20; tokens++) {
            for (int cost = 1; cost <= 20; cost++) {
                RateLimits x = Answers.with(Answers.BUCKET, 1, 20, 1);
                for (int i = tokens; i < 20; i++) {
                    x.ask(0, 1);
                }
                boolean enough = tokens >= cost;
                Answers.due("with " + tokens + " tokens: ask(0, " + cost + ")", x.ask(0, cost),
                    enough ? 1 : 0);
                Answers.due("with " + tokens + " tokens, after ask(0, " + cost + "): tokens",
                    Answers.drain(x, 0), enough ? tokens - cost : tokens);
            }
        }
    }

    private static void logLooksBack() {
        Answers.sentence("the costs of all asks granted at times later than the present time less SPAN");
        for (int start : new int[] {0, 1, 9, 10, 11, 1000}) {
            for (int span = 1; span <= 10; span++) {
                for (int age = 0; age <= 11; age++) {
                    RateLimits x = new RateLimits();
                    x.set(0, Answers.LOG, Answers.numbers(5, 20, span));
                    x.pass(start);
                    x.ask(0, 20);
                    x.pass(age);
                    Answers.due("span " + span + ", granted at " + start + ", " + age
                        + " later: room(0)", x.room(0), age < span ? 0 : 20);
                    Answers.due("span " + span + ", granted at " + start + ", " + age
                        + " later: ask(0, 1)", x.ask(0, 1), age < span ? 0 : 1);
                }
            }
        }
        // Each time has its own costs, and they leave one time after the other.
        RateLimits x = Answers.with(Answers.LOG, 1, 30, 10);
        for (int i = 0; i < 10; i++) {
            Answers.due("at " + i + ": ask(0, 3)", x.ask(0, 3), 1);
            // A cost of 20 leaves room for the last three, the fourth is 7 from its end.
            Answers.due("at " + i + ": waitFor(0, 20)", x.waitFor(0, 20), i < 3 ? 0 : 7);
            x.pass(1);
        }
        for (int i = 10; i < 20; i++) {
            Answers.due("at " + i + ": room(0)", x.room(0), Math.min(20, 3 * (i - 9)));
            x.pass(1);
        }
    }

    private static void logGrants() {
        Answers.sentence("its cost and the costs of all asks granted .. are together at most BURST");
        for (int burst = 1; burst <= 30; burst++) {
            for (int first = 1; first <= 20; first++) {
                RateLimits x = Answers.with(Answers.LOG, 1, burst, 2);
                String b = "burst " + burst + ", ";
                boolean fits = first <= burst;
                Answers.due(b + "ask(0, " + first + ")", x.ask(0, first), fits ? 1 : 0);
                // An ask that was not granted isn't in the log.
                int left = fits ? burst - first : burst;
                x.pass(1);
                if (left < 20) {
                    Answers.due(b + "ask(0, " + first + "), ask(0, " + (left + 1) + ")",
                        x.ask(0, left + 1), 0);
                }
                Answers.due(b + "after ask(0, " + first + "): all that is left",
                    Answers.drain(x, 0), left);
            }
        }
    }

    private static void spacerAtTheStart() {
        Answers.sentence("it has a DUE time, at the start -1000000");
        for (int burst = 1; burst <= 30; burst++) {
            for (int span = 1; span <= 10; span++) {
                RateLimits x = Answers.with(Answers.SPACER, 1, burst, span);
                String b = "burst " + burst + ", span " + span + ": ";
                Answers.due(b + "waitFor(0, 1) at time 0", x.waitFor(0, 1), 0);
                // The present time, 0, is the greater one: no more than the burst.
                Answers.due(b + "granted at time 0", Answers.drain(x, 0), burst);
            }
        }
        RateLimits late = Answers.with(Answers.SPACER, 1, 30, 10);
        Answers.passTo(late, 100000);
        Answers.due("room(0) at 100000", late.room(0), 20);
        Answers.due("granted at 100000", Answers.drain(late, 0), 30);
        late.set(0, Answers.SPACER, Answers.numbers(1, 30, 10));
        Answers.due("made anew, granted at 100000", Answers.drain(late, 0), 30);
    }

    private static void spacerGrants() {
        Answers.sentence("an ask is granted if the greater of the due time and the present time, "
            + "plus cost * SPAN, less the present time, is at most BURST * SPAN");
        for (int span = 1; span <= 10; span++) {
            for (int cost = 1; cost <= 20; cost++) {
                RateLimits x = Answers.with(Answers.SPACER, 1, cost, span);
                String s = "burst " + cost + ", span " + span + ", ";
                if (cost < 20) {
                    Answers.due(s + "one more than the burst", x.ask(0, cost + 1), 0);
                }
                Answers.due(s + "the burst", x.ask(0, cost), 1);
                x.pass(span * cost - 1);
                Answers.due(s + "the burst again, one too early", x.ask(0, cost), 0);
                x.pass(1);
                Answers.due(s + "the burst again", x.ask(0, cost), 1);
                x.pass(span - 1);
                Answers.due(s + "1, one too early", x.ask(0, 1), 0);
                x.pass(1);
                Answers.due(s + "1", x.ask(0, 1), 1);
            }
        }
    }

    private static void spacerDueTime() {
        Answers.sentence("then the due time becomes that greater time plus cost * SPAN");
        // Due 12 after the first ask; the times 11, 12 and 13 stand on either side.
        for (int later = 10; later <= 14; later++) {
            RateLimits x = Answers.with(Answers.SPACER, 1, 6, 4);
            x.ask(0, 3);
            x.pass(later);
            Answers.due(later + " later: ask(0, 5)", x.ask(0, 5), 1);
            int due = Math.max(12, later) + 20;
            Answers.due(later + " later: waitFor(0, 6)", x.waitFor(0, 6), due - later);
            Answers.due(later + " later: waitFor(0, 1)", x.waitFor(0, 1), Math.max(0, due - later - 20));
        }
        // However long it was not asked, it grants no more than the burst.
        RateLimits x = Answers.with(Answers.SPACER, 1, 6, 4);
        x.ask(0, 6);
        x.pass(1000);
        Answers.due("1000 later: granted", Answers.drain(x, 0), 6);
        // An ask that isn't granted leaves the due time where it was.
        Answers.due("waitFor(0, 1)", x.waitFor(0, 1), 4);
        Answers.due("ask(0, 1)", x.ask(0, 1), 0);
        Answers.due("waitFor(0, 1) again", x.waitFor(0, 1), 4);
    }

    private static void leastAndGreatestNumbers() {
        Answers.sentence("RATE is 1 to 5, BURST 1 to 30, SPAN 1 to 10");
        int[] rates = {1, 5};
        int[] bursts = {1, 30};
        int[] spans = {1, 10};
        for (int rate : rates) {
            for (int burst : bursts) {
                for (int span : spans) {
                    RateLimits x = new RateLimits();
                    String n = "rate " + rate + ", burst " + burst + ", span " + span + ": ";
                    for (int kind = 0; kind <= 2; kind++) {
                        Answers.due(n + "set(" + kind + ", " + kind + ", ..)",
                            x.set(kind, kind, Answers.numbers(rate, burst, span)), 0);
                        Answers.due(n + "granted by kind " + kind, Answers.drain(x, kind), burst);
                    }
                    Answers.due(n + "bucket, waitFor(0, 1)", x.waitFor(0, 1), 1);
                    Answers.due(n + "log, waitFor(1, 1)", x.waitFor(1, 1), span);
                    Answers.due(n + "spacer, waitFor(2, 1)", x.waitFor(2, 1), span);
                    x.pass(1);
                    Answers.due(n + "bucket, 1 later", x.room(0), Math.min(rate, burst));
                    Answers.due(n + "log, 1 later", x.room(1), span == 1 ? Math.min(20, burst) : 0);
                    Answers.due(n + "spacer, 1 later", x.room(2), span == 1 ? 1 : 0);
                }
            }
        }
    }

    private static void eachKindUsesTheOnesThatItNames() {
        Answers.sentence("each kind uses the ones that it names");
        for (int other = 1; other <= 10; other++) {
            Answers.alike("bucket, span " + other,
                asked(Answers.BUCKET, 2, other), asked(Answers.BUCKET, 2, 1));
        }
        for (int other = 1; other <= 5; other++) {
            Answers.alike("log, rate " + other,
                asked(Answers.LOG, other, 3), asked(Answers.LOG, 1, 3));
            Answers.alike("spacer, rate " + other,
                asked(Answers.SPACER, other, 3), asked(Answers.SPACER, 1, 3));
        }
    }

    private static RateLimits asked(int kind, int rate, int span) {
        RateLimits x = Answers.with(kind, rate, 21, span);
        x.ask(0, 13);
        x.pass(2);
        x.ask(0, 8);
        return x;
    }

    private static void testsInOrder() {
        Answers.sentence("Tests are made in the order in which they are named");
        RateLimits x = new RateLimits();
        int good = Answers.numbers(1, 10, 1);
        Answers.due("set(4, 3, 0)", x.set(4, 3, 0), RateLimits.BAD_METER);
        Answers.due("set(-1, -1, good)", x.set(-1, -1, good), RateLimits.BAD_METER);
        Answers.due("set(-1, 0, 0)", x.set(-1, 0, 0), RateLimits.BAD_METER);
        Answers.due("set(3, 3, 0)", x.set(3, 3, 0), RateLimits.BAD_KIND);
        Answers.due("set(0, -1, 0)", x.set(0, -1, 0), RateLimits.BAD_KIND);
        Answers.due("set(0, 2, 0)", x.set(0, 2, 0), RateLimits.BAD_NUMBER);
        Answers.due("ask(4, 0)", x.ask(4, 0), RateLimits.BAD_METER);
        Answers.due("ask(-1, 21)", x.ask(-1, 21), RateLimits.BAD_METER);
        Answers.due("ask(3, 21)", x.ask(3, 21), RateLimits.BAD_NUMBER);
        Answers.due("askAll(0, 0)", x.askAll(0, 0), RateLimits.BAD_NUMBER);
        Answers.due("askAll(0, 21)", x.askAll(0, 21), RateLimits.BAD_NUMBER);
        Answers.passTo(x, 100000);
        Answers.due("at 100000: pass(1000)", x.pass(1000), RateLimits.FULL);
        Answers.due("at 100000: pass(1001)", x.pass(1001), RateLimits.BAD_NUMBER);
        Answers.due("at 100000: pass(MAX)", x.pass(Integer.MAX_VALUE), RateLimits.BAD_NUMBER);
        Answers.due("at 100000: pass(-1)", x.pass(-1), RateLimits.BAD_NUMBER);
    }

    private static void refusedChangesNothing() {
        Answers.sentence("a refused call changes nothing");
        int good = Answers.numbers(1, 10, 1);
        for (int m = 0; m <= 3; m++) {
            RateLimits x = Answers.used();
            for (int bad : Answers.NOT_METERS) {
                x.set(bad, m % 3, good);
                x.ask(bad, 1);
            }
            for (int bad : Answers.NOT_KINDS) {
                x.set(m, bad, good);
            }
            for (int kind = 0; kind <= 2; kind++) {
                x.set(m, kind, Answers.numbers(0, 10, 1));
                x.set(m, kind, Answers.numbers(6, 10, 1));
                x.set(m, kind, Answers.numbers(1, 0, 1));
                x.set(m, kind, Answers.numbers(1, 31, 1));
                x.set(m, kind, Answers.numbers(1, 10, 0));
                x.set(m, kind, Answers.numbers(1, 10, 11));
            }
            for (int bad : Answers.NOT_COSTS) {
                x.ask(m, bad);
                x.askAll(1 << m, bad);
                x.askAll(-1, bad);
            }
            for (int bad : Answers.NOT_UNITS) {
                x.pass(bad);
            }
            Answers.alike("refused calls, meter " + m, x, Answers.used());
        }
        RateLimits x = atTheEnd();
        Answers.due("pass(10)", x.pass(10), RateLimits.FULL);
        Answers.due("pass(1000)", x.pass(1000), RateLimits.FULL);
        Answers.alike("FULL", x, atTheEnd());
    }

    /** 9 units from the end of time, so that there is still time to look. */
    private static RateLimits atTheEnd() {
        RateLimits x = new RateLimits();
        Answers.passTo(x, 99990);
        x.set(0, Answers.BUCKET, Answers.numbers(1, 30, 1));
        x.set(1, Answers.LOG, Answers.numbers(1, 20, 9));
        x.set(2, Answers.SPACER, Answers.numbers(1, 20, 9));
        x.askAll(15, 10);
        x.pass(1);
        x.askAll(7, 10);
        return x;
    }

    private static void askingHowItStandsChangesNothing() {
        Answers.sentence("The calls below change nothing.");
        RateLimits x = Answers.used();
        int[] meters = {-1, 0, 1, 2, 3, 4};
        int[] costs = {0, 1, 5, 20, 21};
        for (int m : meters) {
            for (int cost : costs) {
                x.waitFor(m, cost);
            }
            x.room(m);
            x.granted(m);
            x.denied(m);
            x.time();
        }
        Answers.alike("looked at", x, Answers.used());
    }

    private static void badMeterFirst() {
        Answers.sentence("BAD_METER first.");
        RateLimits x = new RateLimits();
        int[] costs = {0, 1, 10, 11, 21, Integer.MIN_VALUE, Integer.MAX_VALUE};
        for (int m : Answers.NOT_METERS) {
            for (int cost : costs) {
                Answers.due("waitFor(" + m + ", " + cost + ")", x.waitFor(m, cost),
                    RateLimits.BAD_METER);
            }
        }
        for (int m : Answers.NOT_METERS) {
            Answers.due("room(" + m + ")", x.room(m), RateLimits.BAD_METER);
            Answers.due("granted(" + m + ")", x.granted(m), RateLimits.BAD_METER);
            Answers.due("denied(" + m + ")", x.denied(m), RateLimits.BAD_METER);
        }
    }
}
