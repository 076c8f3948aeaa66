import java.util.ArrayList;
import java.util.List;
import java.util.Random;

/**
 * Runs of 512 calls (the same ones each time) against a second program that
 * keeps every grant and finds each answer by trying it out.
 */
public final class RandomRunsTest {
    private static final int RUNS = 1500;
    private static final int CALLS = 512;

    private static final class Meter {
        final int kind;
        final int rate;
        final int burst;
        final int span;
        int tokens;
        int due = -1000000;
        int denied = 0;
        final List<int[]> grants = new ArrayList<>();

        Meter(int kind, int rate, int burst, int span) {
            this.kind = kind;
            this.rate = rate;
            this.burst = burst;
            this.span = span;
            this.tokens = burst;
        }

        int tokensAfter(int units) {
            int held = tokens;
            for (int i = 0; i < units && held < burst; i++) {
                held = Math.min(burst, held + rate);
            }
            return held;
        }

        boolean would(int cost, int time, int ahead) {
            int then = time + ahead;
            switch (kind) {
                case 0:
                    return tokensAfter(ahead) >= cost;
                case 1:
                    int sum = cost;
                    for (int[] grant : grants) {
                        sum += grant[0] > then - span ? grant[1] : 0;
                    }
                    return sum <= burst;
                default:
                    return Math.max(due, then) + cost * span - then <= burst * span;
            }
        }

        void grant(int cost, int time) {
            grants.add(new int[] {time, cost});
            tokens -= cost;
            due = Math.max(due, time) + cost * span;
        }

        int granted() {
            return grants.stream().mapToInt(grant -> grant[1]).sum();
        }

        int room(int time) {
            for (int cost = 20; cost > 0; cost--) {
                if (would(cost, time, 0)) {
                    return cost;
                }
            }
            return 0;
        }

        int waitFor(int cost, int time) {
            for (int ahead = 0; ahead <= 2000; ahead++) {
                if (would(cost, time, ahead)) {
                    return ahead;
                }
            }
            return -4;
        }
    }

    private final Random random;
    private final Meter[] meters = new Meter[4];
    private final RateLimits limits = new RateLimits();
    private final int longestPass;
    private int time = 0;

    private RandomRunsTest(int seed) {
        random = new Random(seed);
        longestPass = new int[] {2, 6, 40, 1000}[seed % 4];
        for (int m = 0; m < 4; m++) {
            meters[m] = new Meter(0, 1, 10, 1);
        }
    }

    public static void main(String[] args) {
        for (int seed = 0; seed < RUNS; seed++) {
            RandomRunsTest run = new RandomRunsTest(seed);
            int first = seed % 5 == 0 ? run.goToTheEndOfTime() : 0;
            for (int call = first; call < CALLS; call++) {
                run.oneCall("run " + seed + ", call " + call + ": ", call < first + 4);
            }
        }
        Answers.end();
    }

    /** Without this no run would come near the last time; answers how many calls it took. */
    private int goToTheEndOfTime() {
        int calls = 100;
        for (int i = 1; i < calls; i++) {
            Answers.due("pass(1000)", limits.pass(1000), pass(1000));
        }
        int units = 1000 - random.nextInt(200);
        Answers.due("pass(" + units + ")", limits.pass(units), pass(units));
        return calls;
    }

    private int mostly(int low, int high) {
        if (random.nextInt(40) == 0) {
            return new int[] {low - 1, high + 1, Integer.MIN_VALUE, Integer.MAX_VALUE,
                random.nextInt()}[random.nextInt(5)];
        }
        return low + random.nextInt(high - low + 1);
    }

    private static boolean in(int number, int low, int high) {
        return number >= low && number <= high;
    }

    private void oneCall(String at, boolean start) {
        int which = start ? 0 : random.nextInt(100);
        int m = mostly(0, 3);
        int cost = random.nextBoolean() ? mostly(1, 20) : mostly(1, 5);
        if (which < 2) {
            set(at, m);
        } else if (which < 35) {
            Answers.due(at + "ask(" + m + ", " + cost + ")", limits.ask(m, cost), ask(m, cost));
        } else if (which < 50) {
            int set = random.nextInt(8) == 0 ? random.nextInt() : random.nextInt(16);
            Answers.due(at + "askAll(" + set + ", " + cost + ")",
                limits.askAll(set, cost), askAll(set, cost));
        } else if (which < 65) {
            int units = mostly(0, longestPass);
            Answers.due(at + "pass(" + units + ")", limits.pass(units), pass(units));
        } else if (which < 77) {
            int want = !in(m, 0, 3) ? -1 : !in(cost, 1, 20) ? -3 : meters[m].waitFor(cost, time);
            Answers.due(at + "waitFor(" + m + ", " + cost + ")", limits.waitFor(m, cost), want);
        } else if (which < 86) {
            Answers.due(at + "room(" + m + ")", limits.room(m),
                in(m, 0, 3) ? meters[m].room(time) : -1);
        } else if (which < 91) {
            Answers.due(at + "granted(" + m + ")", limits.granted(m),
                in(m, 0, 3) ? meters[m].granted() : -1);
        } else if (which < 97) {
            Answers.due(at + "denied(" + m + ")", limits.denied(m),
                in(m, 0, 3) ? meters[m].denied : -1);
        } else {
            Answers.due(at + "time()", limits.time(), time);
        }
    }

    private void set(String at, int m) {
        int kind = mostly(0, 2);
        int numbers = random.nextInt();
        if (random.nextInt(4) != 0) {
            numbers = Answers.numbers(1 + random.nextInt(5), 1 + random.nextInt(30),
                1 + random.nextInt(10));
        }
        int rate = numbers & 7;
        int burst = numbers >> 3 & 31;
        int span = numbers >> 8 & 15;
        int want = 0;
        if (!in(m, 0, 3)) {
            want = -1;
        } else if (!in(kind, 0, 2)) {
            want = -2;
        } else if (!in(rate, 1, 5) || !in(burst, 1, 30) || !in(span, 1, 10)) {
            want = -3;
        } else {
            meters[m] = new Meter(kind, rate, burst, span);
        }
        Answers.due(at + "set(" + m + ", " + kind + ", " + numbers + ")",
            limits.set(m, kind, numbers), want);
    }

    private int ask(int m, int cost) {
        if (!in(m, 0, 3)) {
            return -1;
        }
        return in(cost, 1, 20) ? askAll(1 << m, cost) : -3;
    }

    private int askAll(int set, int cost) {
        if (!in(cost, 1, 20)) {
            return -3;
        }
        List<Meter> asked = new ArrayList<>();
        List<Meter> against = new ArrayList<>();
        for (int m = 0; m < 4; m++) {
            if ((set & 1 << m) != 0) {
                asked.add(meters[m]);
                if (!meters[m].would(cost, time, 0)) {
                    against.add(meters[m]);
                }
            }
        }
        against.forEach(meter -> meter.denied++);
        if (!against.isEmpty()) {
            return 0;
        }
        asked.forEach(meter -> meter.grant(cost, time));
        return 1;
    }

    private int pass(int units) {
        if (!in(units, 0, 1000)) {
            return -3;
        }
        if (time + units > 100000) {
            return -4;
        }
        for (Meter meter : meters) {
            meter.tokens = meter.tokensAfter(units);
        }
        time += units;
        return time;
    }
}
