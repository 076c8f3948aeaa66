/** Promise 7: room, the greatest cost up to 20 that would be granted now. */
public final class Promise07RoomTest {
    public static void main(String[] args) {
        wrongMeters();
        atTheStart();
        partOfASpan();
        isTheGreatest();
        Answers.end();
    }

    private static void wrongMeters() {
        RateLimits x = new RateLimits();
        for (int m : Answers.NOT_METERS) {
            Answers.due("room(" + m + ")", x.room(m), RateLimits.BAD_METER);
        }
    }

    private static void atTheStart() {
        for (int kind = 0; kind <= 2; kind++) {
            for (int burst = 1; burst <= 30; burst++) {
                RateLimits x = new RateLimits();
                x.set(3, kind, Answers.numbers(1, burst, 10));
                String meter = "kind " + kind + ", burst " + burst;
                Answers.due(meter + ": room(3)", x.room(3), Math.min(20, burst));
                x.ask(3, Math.min(20, burst));
                Answers.due(meter + ", used: room(3)", x.room(3), Math.max(0, burst - 20));
            }
        }
    }

    private static void partOfASpan() {
        RateLimits x = new RateLimits();
        x.set(0, Answers.SPACER, Answers.numbers(1, 5, 4));
        x.ask(0, 3);
        int[] rooms = {2, 2, 2, 2, 3, 3, 3, 3, 4, 4, 4, 4, 5, 5};
        for (int t = 0; t < rooms.length; t++) {
            Answers.due("at " + t + ": room(0)", x.room(0), rooms[t]);
            x.pass(1);
        }
        x.set(1, Answers.LOG, Answers.numbers(1, 5, 4));
        x.ask(1, 3);
        int[] logRooms = {2, 2, 2, 2, 5, 5};
        for (int t = 0; t < logRooms.length; t++) {
            Answers.due(t + " later: room(1)", x.room(1), logRooms[t]);
            x.pass(1);
        }
    }

    private static void isTheGreatest() {
        for (int kind = 0; kind <= 2; kind++) {
            for (int later = 0; later <= 40; later++) {
                int room = used(kind, later).room(2);
                String meter = "kind " + kind + ", " + later + " later: ";
                if (room > 0) {
                    Answers.due(meter + "ask(2, " + room + ")", used(kind, later).ask(2, room), 1);
                }
                if (room < 20) {
                    Answers.due(meter + "ask(2, " + (room + 1) + ")",
                        used(kind, later).ask(2, room + 1), 0);
                }
            }
        }
    }

    private static RateLimits used(int kind, int later) {
        RateLimits x = new RateLimits();
        x.set(2, kind, Answers.numbers(2, 22, 3));
        x.ask(2, 17);
        x.pass(1);
        x.ask(2, 5);
        x.pass(later);
        return x;
    }
}
