/** Every call with any int: the smallest, the greatest, and those about each bound. */
public final class BoundaryArgumentsTest {
    private static final int MIN = Integer.MIN_VALUE;
    private static final int MAX = Integer.MAX_VALUE;
    private static final int[] INTS = {
        MIN, MIN + 1, MIN + 3, MIN + 15, -1000001, -1000000, -100001, -65536, -1001, -1000, -257, -256,
        -32, -31, -21, -20, -17, -16, -15, -10, -5, -4, -3, -2, -1, 0, 1, 2, 3, 4, 5, 6, 7, 8, 9, 10, 11,
        12, 15, 16, 17, 19, 20, 21, 22, 29, 30, 31, 32, 33, 127, 128, 255, 256, 257, 300, 301, 512, 999,
        1000, 1001, 1024, 32767, 32768, 65535, 65536, 65537, 99999, 100000, 100001, 1000000, 1 << 20,
        1 << 24, 1 << 28, 1 << 30, MAX - 1000, MAX - 15, MAX - 1, MAX
    };

    public static void main(String[] args) {
        set();
        setInOneOfEach();
        ask();
        askAll();
        pass();
        waitFor();
        oneMeter();
        Answers.end();
    }

    private static boolean in(int number, int low, int high) {
        return number >= low && number <= high;
    }

    private static int setDue(int meter, int kind, int numbers) {
        if (!in(meter, 0, 3)) {
            return RateLimits.BAD_METER;
        }
        if (!in(kind, 0, 2)) {
            return RateLimits.BAD_KIND;
        }
        boolean good = in(numbers & 7, 1, 5) && in(numbers >> 3 & 31, 1, 30) && in(numbers >> 8 & 15, 1, 10);
        return good ? 0 : RateLimits.BAD_NUMBER;
    }

    private static void set() {
        int good = Answers.numbers(1, 10, 1);
        for (int a : INTS) {
            for (int b : INTS) {
                RateLimits x = new RateLimits();
                Answers.due("set(" + a + ", " + b + ", good)", x.set(a, b, good), setDue(a, b, good));
                Answers.due("set(" + a + ", 2, " + b + ")", x.set(a, 2, b), setDue(a, 2, b));
                Answers.due("set(3, " + a + ", " + b + ")", x.set(3, a, b), setDue(3, a, b));
            }
        }
    }

    /** The numbers 0 to 4095 hold every rate, burst and span; above them come bits not looked at. */
    private static void setInOneOfEach() {
        int[] above = {0, 1 << 12, 1 << 31, 0xFFFFF000, 0x7FFFF000};
        for (int high : above) {
            RateLimits x = new RateLimits();
            for (int numbers = 0; numbers < 4096; numbers++) {
                if (numbers % 256 == 0) {
                    x = new RateLimits();
                }
                int kind = numbers % 3;
                int want = setDue(0, kind, numbers);
                Answers.due("set(0, " + kind + ", " + (numbers | high) + ")",
                    x.set(0, kind, numbers | high), want);
                if (want == 0) {
                    Answers.due("room(0)", x.room(0), Math.min(20, numbers >> 3 & 31));
                }
            }
        }
    }

    private static void ask() {
        for (int meter : INTS) {
            for (int cost : INTS) {
                int want = !in(meter, 0, 3) ? RateLimits.BAD_METER
                    : !in(cost, 1, 20) ? RateLimits.BAD_NUMBER : cost <= 10 ? 1 : 0;
                Answers.due("ask(" + meter + ", " + cost + ")", new RateLimits().ask(meter, cost), want);
            }
        }
    }

    private static void askAll() {
        for (int set : INTS) {
            for (int cost : INTS) {
                RateLimits x = new RateLimits();
                boolean fits = cost <= 10 || (set & 15) == 0;
                int want = !in(cost, 1, 20) ? RateLimits.BAD_NUMBER : fits ? 1 : 0;
                Answers.due("askAll(" + set + ", " + cost + ")", x.askAll(set, cost), want);
                for (int m = 0; m <= 3; m++) {
                    int bit = set >> m & 1;
                    Answers.due("askAll(" + set + ", " + cost + "): granted(" + m + ")", x.granted(m),
                        want == 1 ? bit * cost : 0);
                    Answers.due("askAll(" + set + ", " + cost + "): denied(" + m + ")", x.denied(m),
                        want == 0 ? bit : 0);
                }
            }
        }
    }

    private static void pass() {
        int[] starts = {0, 1, 98999, 99000, 99001, 99999, 100000};
        for (int start : starts) {
            for (int units : INTS) {
                RateLimits x = new RateLimits();
                Answers.passTo(x, start);
                int want = !in(units, 0, 1000) ? RateLimits.BAD_NUMBER
                    : start + units > 100000 ? RateLimits.FULL : start + units;
                Answers.due("at " + start + ": pass(" + units + ")", x.pass(units), want);
                Answers.due("at " + start + ", pass(" + units + "): time()", x.time(),
                    want < 0 ? start : want);
            }
        }
    }

    private static void waitFor() {
        for (int meter : INTS) {
            for (int cost : INTS) {
                int want = !in(meter, 0, 3) ? RateLimits.BAD_METER
                    : !in(cost, 1, 20) ? RateLimits.BAD_NUMBER : cost <= 10 ? 0 : RateLimits.FULL;
                Answers.due("waitFor(" + meter + ", " + cost + ")",
                    new RateLimits().waitFor(meter, cost), want);
            }
        }
    }

    private static void oneMeter() {
        RateLimits x = new RateLimits();
        for (int meter : INTS) {
            boolean real = in(meter, 0, 3);
            Answers.due("room(" + meter + ")", x.room(meter), real ? 10 : RateLimits.BAD_METER);
            Answers.due("granted(" + meter + ")", x.granted(meter), real ? 0 : RateLimits.BAD_METER);
            Answers.due("denied(" + meter + ")", x.denied(meter), real ? 0 : RateLimits.BAD_METER);
        }
    }
}
