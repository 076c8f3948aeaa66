public final class RateLimits {
    public static final int BAD_METER = -1;
    public static final int BAD_KIND = -2;
    public static final int BAD_NUMBER = -3;
    public static final int FULL = -4;

    private static final int METERS = 4;

    private static final int BUCKET = 0;
    private static final int LOG = 1;
    private static final int SPACER = 2;

    private static final int MOST_RATE = 5;
    private static final int MOST_BURST = 30;
    private static final int MOST_SPAN = 10;
    private static final int MOST_COST = 20;
    private static final int MOST_UNITS = 1000;
    private static final int LAST_TIME = 100000;
    private static final int FIRST_DUE = -1000000;

    // One row of MOST_SPAN for each meter: no log looks further back than that.
    private static final int LOG_LENGTH = METERS * MOST_SPAN;

    // A spacer's due time is never further ahead than burst * span, and the
    // other two kinds recover sooner than that.
    private static final int LONGEST_WAIT = MOST_BURST * MOST_SPAN;

    private final int[] kinds = new int[METERS];
    private final int[] rates = new int[METERS];
    private final int[] bursts = new int[METERS];
    private final int[] spans = new int[METERS];
    private final int[] tokens = new int[METERS];
    private final int[] dues = new int[METERS];
    private final int[] grantedCosts = new int[METERS];
    private final int[] deniedAsks = new int[METERS];

    // In a meter's row stand the costs granted 0, 1, 2, ... time units ago.
    private final int[] logged = new int[LOG_LENGTH];

    private int now = 0;

    public RateLimits() {
        for (int meter = 0; meter < METERS; meter++) {
            makeAnew(meter, BUCKET, 1, 10, 1);
        }
    }

    public int set(int meter, int kind, int numbers) {
        int rate = numbers & 7;
        int burst = (numbers >> 3) & 31;
        int span = (numbers >> 8) & 15;
        if (!isMeter(meter)) {
            return BAD_METER;
        }
        if (kind < BUCKET || kind > SPACER) {
            return BAD_KIND;
        }
        if (rate < 1 || rate > MOST_RATE
                || burst < 1 || burst > MOST_BURST
                || span < 1 || span > MOST_SPAN) {
            return BAD_NUMBER;
        }
        makeAnew(meter, kind, rate, burst, span);
        return 0;
    }

    public int ask(int meter, int cost) {
        if (!isMeter(meter)) {
            return BAD_METER;
        }
        if (!isCost(cost)) {
            return BAD_NUMBER;
        }
        if (!wouldGrant(meter, cost, 0)) {
            deniedAsks[meter]++;
            return 0;
        }
        grant(meter, cost);
        return 1;
    }

    public int askAll(int meters, int cost) {
        if (!isCost(cost)) {
            return BAD_NUMBER;
        }
        boolean allWould = true;
        for (int meter = 0; meter < METERS; meter++) {
            if (isInSet(meters, meter) && !wouldGrant(meter, cost, 0)) {
                deniedAsks[meter]++;
                allWould = false;
            }
        }
        if (!allWould) {
            return 0;
        }
        for (int meter = 0; meter < METERS; meter++) {
            if (isInSet(meters, meter)) {
                grant(meter, cost);
            }
        }
        return 1;
    }

    public int pass(int units) {
        if (units < 0 || units > MOST_UNITS) {
            return BAD_NUMBER;
        }
        if (now + units > LAST_TIME) {
            return FULL;
        }
        now += units;
        for (int meter = 0; meter < METERS; meter++) {
            tokens[meter] = tokensAfter(meter, units);
            ageLog(meter, units);
        }
        return now;
    }

    public int waitFor(int meter, int cost) {
        if (!isMeter(meter)) {
            return BAD_METER;
        }
        if (!isCost(cost)) {
            return BAD_NUMBER;
        }
        if (cost > bursts[meter]) {
            return FULL;
        }
        int wait = 0;
        while (wait < LONGEST_WAIT && !wouldGrant(meter, cost, wait)) {
            wait++;
        }
        return wait;
    }

    public int room(int meter) {
        if (!isMeter(meter)) {
            return BAD_METER;
        }
        int cost = MOST_COST;
        while (cost > 0 && !wouldGrant(meter, cost, 0)) {
            cost--;
        }
        return cost;
    }

    public int granted(int meter) {
        return isMeter(meter) ? grantedCosts[meter] : BAD_METER;
    }

    public int denied(int meter) {
        return isMeter(meter) ? deniedAsks[meter] : BAD_METER;
    }

    public int time() {
        return now;
    }

    private static boolean isMeter(int meter) {
        return meter >= 0 && meter < METERS;
    }

    private static boolean isCost(int cost) {
        return cost >= 1 && cost <= MOST_COST;
    }

    private static boolean isInSet(int meters, int meter) {
        return ((meters >> meter) & 1) == 1;
    }

    // What the kind does not use is set as well, so that nothing of the meter
    // that stood here before can show.
    private void makeAnew(int meter, int kind, int rate, int burst, int span) {
        kinds[meter] = kind;
        rates[meter] = rate;
        bursts[meter] = burst;
        spans[meter] = span;
        tokens[meter] = burst;
        dues[meter] = FIRST_DUE;
        grantedCosts[meter] = 0;
        deniedAsks[meter] = 0;
        for (int age = 0; age < MOST_SPAN; age++) {
            logged[meter * MOST_SPAN + age] = 0;
        }
    }

    // Looking ahead by a wait lets waitFor use the very test that ask uses.
    private boolean wouldGrant(int meter, int cost, int wait) {
        if (kinds[meter] == BUCKET) {
            return tokensAfter(meter, wait) >= cost;
        }
        if (kinds[meter] == LOG) {
            return cost + loggedAfter(meter, wait) <= bursts[meter];
        }
        int then = now + wait;
        int span = spans[meter];
        return startAt(meter, then) + cost * span - then <= bursts[meter] * span;
    }

    private void grant(int meter, int cost) {
        grantedCosts[meter] += cost;
        if (kinds[meter] == BUCKET) {
            tokens[meter] -= cost;
        } else if (kinds[meter] == LOG) {
            logged[meter * MOST_SPAN] += cost;
        } else {
            dues[meter] = startAt(meter, now) + cost * spans[meter];
        }
    }

    private int tokensAfter(int meter, int units) {
        int sum = tokens[meter] + rates[meter] * units;
        return sum < bursts[meter] ? sum : bursts[meter];
    }

    // A cost leaves the log when its age reaches the span.
    private int loggedAfter(int meter, int units) {
        int sum = 0;
        for (int age = 0; age < MOST_SPAN; age++) {
            if (age + units < spans[meter]) {
                sum += logged[meter * MOST_SPAN + age];
            }
        }
        return sum;
    }

    private int startAt(int meter, int then) {
        return dues[meter] > then ? dues[meter] : then;
    }

    // From the oldest to the youngest, so that no cost is written over before
    // it has been moved.
    private void ageLog(int meter, int units) {
        int row = meter * MOST_SPAN;
        for (int age = MOST_SPAN - 1; age >= 0; age--) {
            logged[row + age] = age >= units ? logged[row + age - units] : 0;
        }
    }
}
