/** The boundary cases that promises 1 to 5 name, sentence by sentence. */
public final class BoundaryChangesTest {
    private static final int GOOD = Answers.numbers(2, 12, 3);

    public static void main(String[] args) {
        newObject();
        setMakesAnew();
        setLooksAtItsBits();
        setMeters();
        setKinds();
        setNumbers();
        setAllThreeAreTested();
        setAnswersZero();
        askMeters();
        askCosts();
        askGrantedOrNot();
        askAllOtherBits();
        askAllOnlyIfEachWould();
        askAllAsBefore();
        askAllCosts();
        askAllEmptySet();
        passUnits();
        passFull();
        passAnswersTheTime();
        Answers.end();
    }

    private static void newObject() {
        Answers.sentence("Time 0; every meter is a BUCKET with rate 1, burst 10 and span 1, full.");
        Answers.due("time()", new RateLimits().time(), 0);
        RateLimits made = new RateLimits();
        for (int m = 0; m <= 3; m++) {
            made.set(m, Answers.BUCKET, Answers.numbers(1, 10, 1));
        }
        Answers.alike("new", new RateLimits(), made);
        RateLimits x = new RateLimits();
        for (int m = 0; m <= 3; m++) {
            Answers.due("new: ask(" + m + ", 11)", x.ask(m, 11), 0);
            Answers.due("new: tokens of " + m, Answers.drain(x, m), 10);
        }
        x.pass(1);
        for (int m = 0; m <= 3; m++) {
            Answers.due("1 later: tokens of " + m, Answers.drain(x, m), 1);
        }
        x.pass(10);
        for (int m = 0; m <= 3; m++) {
            Answers.due("10 later: tokens of " + m, Answers.drain(x, m), 10);
        }
        x.pass(11);
        for (int m = 0; m <= 3; m++) {
            Answers.due("11 later: tokens of " + m, Answers.drain(x, m), 10);
        }
    }

    private static void setMakesAnew() {
        Answers.sentence("Makes a meter anew, as at the start");
        int[] numbers = {GOOD, Answers.numbers(1, 1, 1), Answers.numbers(1, 30, 10)};
        for (int old = 0; old <= 2; old++) {
            for (int kind = 0; kind <= 2; kind++) {
                for (int m = 0; m <= 3; m++) {
                    for (int n : numbers) {
                        setMakesOneAnew(m, old, kind, n);
                    }
                }
            }
        }
    }

    private static void setMakesOneAnew(int meter, int old, int kind, int numbers) {
        String what = "meter " + meter + ", " + old + " to " + kind + ", numbers " + numbers;
        RateLimits x = emptied(meter, old, true);
        Answers.due(what, x.set(meter, kind, numbers), 0);
        Answers.due(what + ": granted", x.granted(meter), 0);
        Answers.due(what + ": denied", x.denied(meter), 0);
        Answers.due(what + ": time()", x.time(), 9);
        RateLimits y = emptied(meter, old, false);
        y.set(meter, kind, numbers);
        Answers.alike(what, x, y);
    }

    /** At time 9, with the meter asked at each time and used up, or never asked; the others are used. */
    private static RateLimits emptied(int meter, int kind, boolean asked) {
        RateLimits x = new RateLimits();
        x.set(meter, kind, Answers.numbers(1, 30, 10));
        for (int time = 0; time <= 9; time++) {
            x.pass(time == 0 ? 0 : 1);
            x.askAll(15 & ~(1 << meter), 2);
            if (asked) {
                x.ask(meter, 3);
            }
        }
        if (asked) {
            Answers.drain(x, meter);
        }
        return x;
    }

    private static void setLooksAtItsBits() {
        Answers.sentence("rate = numbers & 7, burst = (numbers >> 3) & 31, span = (numbers >> 8) & 15");
        for (int kind = 0; kind <= 2; kind++) {
            for (int bit = 12; bit < 32; bit++) {
                bitsAbove(kind, 1 << bit);
            }
            bitsAbove(kind, 0xFFFFF000);
            bitsAbove(kind, 0x7FFFF000);
        }
        // The smallest and the greatest int, and others with a field of 0 or of ones.
        int[] bad = {Integer.MIN_VALUE, Integer.MAX_VALUE, -1, 0, 7, 8, 0xFF, 0x100, 0xFFF, 0xF00};
        for (int numbers : bad) {
            Answers.due("set(0, 0, " + numbers + ")", new RateLimits().set(0, 0, numbers),
                RateLimits.BAD_NUMBER);
        }
    }

    private static void bitsAbove(int kind, int high) {
        RateLimits x = new RateLimits();
        RateLimits y = new RateLimits();
        Answers.due("set(0, " + kind + ", " + (GOOD | high) + ")", x.set(0, kind, GOOD | high), 0);
        y.set(0, kind, GOOD);
        x.ask(0, 7);
        y.ask(0, 7);
        Answers.alike("kind " + kind + ", bits above " + high, x, y);
    }

    private static void setMeters() {
        Answers.sentence("meter not in 0 to 3: BAD_METER");
        for (int m : Answers.NOT_METERS) {
            for (int kind = -1; kind <= 3; kind++) {
                RateLimits x = new RateLimits();
                Answers.due("set(" + m + ", " + kind + ", good)", x.set(m, kind, GOOD),
                    RateLimits.BAD_METER);
                Answers.due("set(" + m + ", " + kind + ", 0)", x.set(m, kind, 0),
                    RateLimits.BAD_METER);
            }
        }
        for (int m = 0; m <= 3; m++) {
            RateLimits x = new RateLimits();
            Answers.due("set(" + m + ", 0, good)", x.set(m, 0, GOOD), 0);
            for (int other = 0; other <= 3; other++) {
                Answers.due("set(" + m + ", 0, good): room(" + other + ")", x.room(other),
                    other == m ? 12 : 10);
            }
        }
    }

    private static void setKinds() {
        Answers.sentence("kind not in 0 to 2: BAD_KIND");
        for (int m = 0; m <= 3; m++) {
            for (int kind : Answers.NOT_KINDS) {
                RateLimits x = new RateLimits();
                Answers.due("set(" + m + ", " + kind + ", good)", x.set(m, kind, GOOD),
                    RateLimits.BAD_KIND);
                Answers.due("set(" + m + ", " + kind + ", 0)", x.set(m, kind, 0),
                    RateLimits.BAD_KIND);
                Answers.due("refused: room(" + m + ")", x.room(m), 10);
            }
        }
        // Each kind is the one that bears its number: 3 units after a cost of 12.
        int[] rooms = {6, 12, 1};
        for (int kind = 0; kind <= 2; kind++) {
            RateLimits x = new RateLimits();
            Answers.due("set(0, " + kind + ", good)", x.set(0, kind, GOOD), 0);
            x.ask(0, 12);
            x.pass(3);
            Answers.due("kind " + kind + ", 3 later: room(0)", x.room(0), rooms[kind]);
        }
    }

    private static void setNumbers() {
        Answers.sentence("rate not in 1 to 5, burst not in 1 to 30, or span not in 1 to 10");
        for (int rate = 0; rate <= 7; rate++) {
            setOne(rate, 12, 3, rate >= 1 && rate <= 5);
        }
        for (int burst = 0; burst <= 31; burst++) {
            setOne(2, burst, 3, burst >= 1 && burst <= 30);
        }
        for (int span = 0; span <= 15; span++) {
            setOne(2, 12, span, span >= 1 && span <= 10);
        }
    }

    private static void setOne(int rate, int burst, int span, boolean good) {
        for (int kind = 0; kind <= 2; kind++) {
            String call = "set(1, " + kind + ", rate " + rate + " burst " + burst + " span " + span + ")";
            RateLimits x = new RateLimits();
            Answers.due(call, x.set(1, kind, Answers.numbers(rate, burst, span)),
                good ? 0 : RateLimits.BAD_NUMBER);
            Answers.due(call + ": room(1)", x.room(1), good ? Math.min(20, burst) : 10);
        }
    }

    private static void setAllThreeAreTested() {
        Answers.sentence("(all three are tested): BAD_NUMBER");
        int[] notSpans = {0, 11, 12, 13, 14, 15};
        for (int span : notSpans) {
            Answers.due("a bucket, span " + span,
                new RateLimits().set(0, Answers.BUCKET, Answers.numbers(2, 12, span)),
                RateLimits.BAD_NUMBER);
        }
        int[] notRates = {0, 6, 7};
        for (int rate : notRates) {
            Answers.due("a log, rate " + rate,
                new RateLimits().set(0, Answers.LOG, Answers.numbers(rate, 12, 3)),
                RateLimits.BAD_NUMBER);
            Answers.due("a spacer, rate " + rate,
                new RateLimits().set(0, Answers.SPACER, Answers.numbers(rate, 12, 3)),
                RateLimits.BAD_NUMBER);
        }
    }

    private static void setAnswersZero() {
        Answers.sentence("Else answers 0.");
        int[] ends = {Answers.numbers(1, 1, 1), Answers.numbers(5, 30, 10)};
        for (int numbers : ends) {
            for (int m = 0; m <= 3; m++) {
                for (int kind = 0; kind <= 2; kind++) {
                    RateLimits x = new RateLimits();
                    Answers.due("set(" + m + ", " + kind + ", " + numbers + ")",
                        x.set(m, kind, numbers), 0);
                    Answers.due("again", x.set(m, kind, numbers), 0);
                }
            }
        }
    }

    private static void askMeters() {
        Answers.sentence("Asks a meter. BAD_METER");
        int[] costs = {1, 10, 20, 0, 21, Integer.MIN_VALUE, Integer.MAX_VALUE};
        for (int m : Answers.NOT_METERS) {
            for (int cost : costs) {
                RateLimits x = new RateLimits();
                Answers.due("ask(" + m + ", " + cost + ")", x.ask(m, cost), RateLimits.BAD_METER);
                for (int real = 0; real <= 3; real++) {
                    Answers.due("refused: granted(" + real + ")", x.granted(real), 0);
                    Answers.due("refused: denied(" + real + ")", x.denied(real), 0);
                }
            }
        }
    }

    private static void askCosts() {
        Answers.sentence("cost not in 1 to 20: BAD_NUMBER");
        for (int kind = 0; kind <= 2; kind++) {
            for (int cost : Answers.NOT_COSTS) {
                RateLimits x = Answers.with(kind, 1, 30, 2);
                Answers.due("kind " + kind + ": ask(0, " + cost + ")", x.ask(0, cost),
                    RateLimits.BAD_NUMBER);
                Answers.due("refused: granted(0)", x.granted(0), 0);
                Answers.due("refused: denied(0)", x.denied(0), 0);
                Answers.alike("kind " + kind + ", ask(0, " + cost + ")", x,
                    Answers.with(kind, 1, 30, 2));
            }
            RateLimits x = Answers.with(kind, 1, 30, 2);
            Answers.due("kind " + kind + ": ask(0, 1)", x.ask(0, 1), 1);
            Answers.due("kind " + kind + ": ask(0, 20)", x.ask(0, 20), 1);
        }
    }

    private static void askGrantedOrNot() {
        Answers.sentence("Else answers 1 if the ask is granted, 0 if not (then the meter is as before).");
        for (int kind = 0; kind <= 2; kind++) {
            for (int burst = 1; burst <= 30; burst++) {
                int cost = Math.min(20, burst);
                String b = "kind " + kind + ", burst " + burst + ": ";
                RateLimits x = Answers.with(kind, 1, burst, 3);
                Answers.due(b + "ask(0, " + cost + ")", x.ask(0, cost), 1);
                RateLimits y = Answers.with(kind, 1, burst, 3);
                y.ask(0, cost);
                int left = burst - cost;
                Answers.due(b + "ask(0, " + (left + 1) + ")", x.ask(0, left + 1), 0);
                Answers.due(b + "ask(0, 20)", x.ask(0, 20), 0);
                Answers.alikeButDenied(b + "not granted", x, y);
            }
        }
    }

    private static void askAllOtherBits() {
        Answers.sentence("bit m for meter m; other bits are not looked at");
        for (int set = 0; set <= 15; set++) {
            for (int bit = 4; bit < 32; bit++) {
                otherBits(set, set | 1 << bit);
            }
            otherBits(set, set | 0xFFFFFFF0);
            otherBits(set, set | 0x7FFFFFF0);
        }
    }

    private static void otherBits(int set, int bits) {
        RateLimits x = Answers.mixed();
        Answers.due("askAll(" + bits + ", 9)", x.askAll(bits, 9), 1);
        for (int m = 0; m <= 3; m++) {
            boolean in = (set >> m & 1) == 1;
            Answers.due("askAll(" + bits + ", 9): granted(" + m + ")", x.granted(m), in ? 9 : 0);
            Answers.due("askAll(" + bits + ", 9): room(" + m + ")", x.room(m), 12 - m - (in ? 9 : 0));
        }
        RateLimits y = Answers.mixed();
        y.askAll(set, 9);
        Answers.same("askAll(" + bits + ", 9)", Answers.state(x), Answers.state(y));
        RateLimits z = Answers.mixed();
        Answers.due("askAll(" + bits + ", 20)", z.askAll(bits, 20), set == 0 ? 1 : 0);
        for (int m = 0; m <= 3; m++) {
            Answers.due("askAll(" + bits + ", 20): denied(" + m + ")", z.denied(m), set >> m & 1);
        }
    }

    private static void askAllOnlyIfEachWould() {
        Answers.sentence("grants only if each of them would");
        for (int cost = 1; cost <= 20; cost++) {
            for (int set = 1; set <= 15; set++) {
                boolean each = true;
                for (int m = 0; m <= 3; m++) {
                    each &= (set >> m & 1) == 0 || cost <= 12 - m;
                }
                RateLimits x = Answers.mixed();
                Answers.due("askAll(" + set + ", " + cost + ")", x.askAll(set, cost), each ? 1 : 0);
                for (int m = 0; m <= 3; m++) {
                    boolean took = each && (set >> m & 1) == 1;
                    Answers.due("askAll(" + set + ", " + cost + "): room(" + m + ")", x.room(m),
                        12 - m - (took ? cost : 0));
                }
            }
        }
    }

    private static void askAllAsBefore() {
        Answers.sentence("otherwise all are as before");
        for (int against = 0; against <= 3; against++) {
            for (int set = 1; set <= 15; set++) {
                if ((set >> against & 1) == 1) {
                    RateLimits x = mixedWithout(against);
                    String call = "only " + against + " would not: askAll(" + set + ", 1)";
                    Answers.due(call, x.askAll(set, 1), 0);
                    Answers.alikeButDenied(call, x, mixedWithout(against));
                }
            }
        }
    }

    private static RateLimits mixedWithout(int meter) {
        RateLimits x = Answers.mixed();
        x.ask(meter, 12 - meter);
        return x;
    }

    private static void askAllCosts() {
        Answers.sentence("askAll: cost not in 1 to 20: BAD_NUMBER");
        int[] sets = {0, 1, 15, 16, -1, Integer.MIN_VALUE, Integer.MAX_VALUE};
        for (int set : sets) {
            RateLimits x = Answers.mixed();
            for (int cost : Answers.NOT_COSTS) {
                Answers.due("askAll(" + set + ", " + cost + ")", x.askAll(set, cost),
                    RateLimits.BAD_NUMBER);
            }
            Answers.alike("askAll refused, set " + set, x, Answers.mixed());
        }
        RateLimits x = Answers.with(Answers.LOG, 1, 21, 1);
        Answers.due("askAll(1, 1)", x.askAll(1, 1), 1);
        Answers.due("askAll(1, 20)", x.askAll(1, 20), 1);
    }

    private static void askAllEmptySet() {
        Answers.sentence("Else answers 1 or 0 (1 for an empty set).");
        int[] empty = {0, 16, 1 << 16, 0x7FFFFFF0, 0xFFFFFFF0, Integer.MIN_VALUE};
        for (int set : empty) {
            RateLimits x = mixedWithout(0);
            for (int cost = 1; cost <= 20; cost++) {
                Answers.due("askAll(" + set + ", " + cost + ")", x.askAll(set, cost), 1);
            }
            Answers.alike("askAll of an empty set, " + set, x, mixedWithout(0));
        }
    }

    private static void passUnits() {
        Answers.sentence("Time goes on. units not in 0 to 1000: BAD_NUMBER");
        RateLimits x = Answers.used();
        for (int units : Answers.NOT_UNITS) {
            Answers.due("pass(" + units + ")", x.pass(units), RateLimits.BAD_NUMBER);
        }
        Answers.alike("pass refused", x, Answers.used());
        RateLimits y = Answers.used();
        Answers.due("pass(0)", y.pass(0), 3);
        Answers.alike("pass(0)", y, Answers.used());
        RateLimits z = new RateLimits();
        Answers.due("pass(1)", z.pass(1), 1);
        Answers.due("pass(1000)", z.pass(1000), 1001);
        Answers.due("pass(999)", z.pass(999), 2000);
    }

    private static void passFull() {
        Answers.sentence("time would be above 100000: FULL");
        for (int left : new int[] {0, 1, 2, 500, 999, 1000}) {
            RateLimits x = new RateLimits();
            Answers.passTo(x, 100000 - left);
            if (left < 1000) {
                Answers.due(left + " left: pass(" + (left + 1) + ")", x.pass(left + 1),
                    RateLimits.FULL);
                Answers.due(left + " left: pass(1000)", x.pass(1000), RateLimits.FULL);
            }
            Answers.due(left + " left: time()", x.time(), 100000 - left);
            Answers.due(left + " left: pass(0)", x.pass(0), 100000 - left);
            Answers.due(left + " left: pass(" + left + ")", x.pass(left), 100000);
            Answers.due("none left: pass(0)", x.pass(0), 100000);
            Answers.due("none left: pass(1)", x.pass(1), RateLimits.FULL);
            Answers.due("none left: pass(1000)", x.pass(1000), RateLimits.FULL);
            Answers.due("none left: pass(1001)", x.pass(1001), RateLimits.BAD_NUMBER);
            Answers.due("none left: time()", x.time(), 100000);
        }
        // At the end of time the meters are still asked.
        RateLimits x = new RateLimits();
        Answers.passTo(x, 100000);
        for (int kind = 0; kind <= 2; kind++) {
            x.set(kind, kind, Answers.numbers(1, 8, 10));
            Answers.due("at 100000, kind " + kind, Answers.drain(x, kind), 8);
        }
    }

    private static void passAnswersTheTime() {
        Answers.sentence("Else answers the time.");
        RateLimits x = new RateLimits();
        int time = 0;
        for (int units = 0; units <= 1000; units += 8) {
            time += units;
            Answers.due("pass(" + units + ")", x.pass(units), time);
            Answers.due("time()", x.time(), time);
        }
    }
}
