/** Promise 4: askAll grants only if every meter in the set would. */
public final class Promise04AskAllTest {
    public static void main(String[] args) {
        wrongCosts();
        emptySet();
        everySet();
        oneDoesNot();
        Answers.end();
    }

    private static void wrongCosts() {
        RateLimits x = Answers.mixed();
        String before = Answers.state(x);
        int[] sets = {0, 1, 15, 16, -1};
        for (int cost : Answers.NOT_COSTS) {
            for (int set : sets) {
                Answers.due("askAll(" + set + ", " + cost + ")", x.askAll(set, cost),
                    RateLimits.BAD_NUMBER);
            }
        }
        Answers.same("refused askAll", Answers.state(x), before);
    }

    private static void emptySet() {
        RateLimits x = Answers.mixed();
        String before = Answers.state(x);
        int[] sets = {0, 16, 32, 0x7FFFFFF0, 0xFFFFFFF0, Integer.MIN_VALUE};
        for (int set : sets) {
            Answers.due("askAll(" + set + ", 20)", x.askAll(set, 20), 1);
            Answers.due("askAll(" + set + ", 1)", x.askAll(set, 1), 1);
        }
        Answers.same("empty sets", Answers.state(x), before);
    }

    /** An askAll that is granted is as an ask of each meter in the set, and of no other. */
    private static void everySet() {
        for (int set = 0; set < 16; set++) {
            for (int high : new int[] {0, 0xFFFFFFF0, 0x7FFFFFF0, 16, Integer.MIN_VALUE}) {
                int bits = set | high;
                RateLimits x = Answers.mixed();
                RateLimits y = Answers.mixed();
                x.pass(4);
                y.pass(4);
                Answers.due("askAll(" + bits + ", 5)", x.askAll(bits, 5), 1);
                for (int m = 0; m < 4; m++) {
                    if ((set >> m & 1) == 1) {
                        y.ask(m, 5);
                    }
                    Answers.due("granted(" + m + ")", x.granted(m), (set >> m & 1) * 5);
                }
                Answers.same("askAll(" + bits + ", 5)", Answers.state(x), Answers.state(y));
                x.pass(2);
                y.pass(2);
                Answers.same("askAll(" + bits + ", 5), later", Answers.state(x), Answers.state(y));
            }
        }
    }

    /** Room is 12, 11, 10 and 9: each cost of 9 to 13 divides the meters elsewhere. */
    private static void oneDoesNot() {
        for (int cost = 9; cost <= 13; cost++) {
            for (int set = 1; set < 16; set++) {
                RateLimits x = Answers.mixed();
                int would = cost <= 9 ? 15 : cost == 10 ? 7 : cost == 11 ? 3 : cost == 12 ? 1 : 0;
                boolean all = (set & ~would) == 0;
                Answers.due("askAll(" + set + ", " + cost + ")", x.askAll(set, cost), all ? 1 : 0);
                for (int m = 0; m < 4; m++) {
                    boolean in = (set >> m & 1) == 1;
                    boolean would1 = (would >> m & 1) == 1;
                    String call = "after askAll(" + set + ", " + cost + ") meter " + m;
                    Answers.due(call + " granted", x.granted(m), all && in ? cost : 0);
                    Answers.due(call + " denied", x.denied(m), in && !would1 ? 1 : 0);
                    Answers.due(call + " room", x.room(m), 12 - m - (all && in ? cost : 0));
                }
            }
        }
    }
}
