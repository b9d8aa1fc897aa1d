/** Promises 17 to 20: offsets, chases, chaser, there. */
public final class ChasersTest {
    private static final Checks CHECKS = new Checks();

    public static void main(String[] args) {
        offsets();
        ways();
        wayOfHalfADay();
        steps();
        stepsBackward();
        wanted();
        overruns();
        there();
        tooFar();
        eachOnItsOwn();
        wrongNumbers();
        CHECKS.end();
    }

    private static void due(String call, int got, int want) {
        CHECKS.due(call, got, want);
    }

    private static void offsets() {
        FrameClocks x = new FrameClocks();
        due("offsets(-1, 1)", x.offsets(-1, 1), FrameClocks.BAD);
        due("offsets(3, 1)", x.offsets(3, 1), FrameClocks.BAD);
        due("offsets(0, 100000)", x.offsets(0, 100000), FrameClocks.BAD);
        due("offsets(0, -100000)", x.offsets(0, -100000), FrameClocks.BAD);
        due("offsets(0, 0)", x.offsets(0, 0), FrameClocks.STATE);
        due("refused", x.count(6), 0);
        due("offsets(0, 99999)", x.offsets(0, 99999), 1);
        due("offsets(0, 99999) again", x.offsets(0, 99999), FrameClocks.STATE);
        due("offsets(1, -99999)", x.offsets(1, -99999), 1);
        due("offset", x.chaser(0, 2), 99999);
        due("offset", x.chaser(1, 2), -99999);
        due("offset", x.chaser(2, 2), 0);
        due("done", x.count(6), 2);
    }

    private static void ways() {
        FrameClocks x = new FrameClocks();
        x.offsets(0, 99999);
        x.offsets(1, -99999);
        due("way", x.chaser(0, 3), 99999);
        due("way", x.chaser(1, 3), -99999);
        x.lays(2159990, 3, 0);
        x.plays(144, 20, 0, 0);
        due("way round the day", x.chaser(2, 3), -8);
        due("way", x.chaser(0, 3), 99991);
        due("place", x.chaser(0, 0), 0);
    }

    /** As long both ways: it goes forward. */
    private static void wayOfHalfADay() {
        FrameClocks x = new FrameClocks();
        x.lays(1079998, 3, 0);
        x.plays(144, 20, 0, 0);
        due("wheel", x.wheel(0), 1080000);
        due("way", x.chaser(0, 3), 1080000);
        x.offsets(0, 1);
        due("way", x.chaser(0, 3), -1079999);
        x.offsets(0, -1);
        due("way", x.chaser(0, 3), 1079999);
    }

    private static void steps() {
        FrameClocks x = new FrameClocks();
        x.offsets(0, 6);
        // WANTED 3, 2, 2, 1, 0
        int[] places = {1, 3, 5, 6, 6};
        int[] speeds = {1, 2, 2, 1, 0};
        for (int i = 0; i < places.length; i++) {
            due("chases(0, 1) " + i, x.chases(0, 1), places[i]);
            due("speed " + i, x.chaser(0, 1), speeds[i]);
        }
        due("way", x.chaser(0, 3), 0);
        due("done", x.count(6), 6);
        x.undo();
        due("undone", x.chaser(0, 0), 6);
        due("undone", x.chaser(0, 1), 1);
    }

    private static void stepsBackward() {
        FrameClocks x = new FrameClocks();
        x.offsets(2, -6);
        int[] places = {2159999, 2159997, 2159995, 2159994, 2159994};
        int[] speeds = {-1, -2, -2, -1, 0};
        due("there", x.there(2), 5);
        for (int i = 0; i < places.length; i++) {
            due("chases(2, 1) " + i, x.chases(2, 1), places[i]);
            due("speed " + i, x.chaser(2, 1), speeds[i]);
        }
        due("there", x.there(2), 0);
    }

    /** At each SPEED: WAY is just enough for it, or by one FRAME too short. */
    private static void wanted() {
        for (int k = 1; k <= 99; k++) {
            int sum = k * (k + 1) / 2;
            for (int sign = -1; sign <= 1; sign += 2) {
                FrameClocks x = new FrameClocks();
                x.offsets(0, 99999 * sign);
                x.chases(0, k);
                due("speed", x.chaser(0, 1), sign * k);
                x.offsets(0, sign * (sum + sum));
                due("way", x.chaser(0, 3), sign * sum);
                x.chases(0, 1);
                due("enough for " + k, x.chaser(0, 1), sign * k);
                x.undo();
                x.offsets(0, sign * (sum + sum - 1));
                x.chases(0, 1);
                due("too short for " + k, x.chaser(0, 1), sign * (k - 1));
            }
        }
    }

    /** A target that comes nearer all at once is overrun: SPEED turns by one a step. */
    private static void overruns() {
        FrameClocks x = new FrameClocks();
        x.offsets(0, 99999);
        due("100 steps", x.chases(0, 100), 99 * 100 / 2 + 99);
        due("never above 99", x.chaser(0, 1), 99);
        x.offsets(0, 0);
        due("way", x.chaser(0, 3), -5049);
        due("one step", x.chases(0, 1), 5049 + 98);
        due("speed", x.chaser(0, 1), 98);
        due("98 steps", x.chases(0, 98), 5147 + 97 * 98 / 2);
        due("speed", x.chaser(0, 1), 0);
        int steps = x.there(0);
        due("it comes back", x.chases(0, steps), 0);
        due("speed", x.chaser(0, 1), 0);
        due("way", x.chaser(0, 3), 0);
    }

    private static void there() {
        FrameClocks x = new FrameClocks();
        x.offsets(1, 1);
        // one step of 1, one step of 0
        due("there(1)", x.there(1), 2);
        due("asked changes nothing", x.chaser(1, 0), 0);
        due("asked changes nothing", x.count(6), 1);
        x.chases(1, 1);
        due("way is 0, speed not", x.chaser(1, 3), 0);
        due("there(1)", x.there(1), 1);
        for (int offset = 2; offset < 5000; offset = 2 * offset + 1) {
            FrameClocks y = new FrameClocks();
            y.offsets(0, offset);
            int steps = y.there(0);
            due("few enough to look at each", steps < 160 ? 1 : 0, 1);
            for (int i = 0; i + 1 < steps; i++) {
                y.chases(0, 1);
                if (y.chaser(0, 1) == 0 && y.chaser(0, 3) == 0) {
                    due("there ahead of time", i + 1, steps);
                }
            }
            y.chases(0, 1);
            due("speed behind " + steps, y.chaser(0, 1), 0);
            due("way behind " + steps, y.chaser(0, 3), 0);
        }
    }

    private static void tooFar() {
        FrameClocks x = new FrameClocks();
        x.lays(499998, 3, 0);
        x.plays(144, 20, 0, 0);
        due("there(0)", x.there(0), FrameClocks.NONE);
        due("the farthest that is THERE in time", farthest(), 3000);
    }

    /** Looks for an OFFSET that takes 3000 STEPS: one that takes 3001 is NONE. */
    private static int farthest() {
        FrameClocks x = new FrameClocks();
        x.lays(200000, 3, 0);
        x.plays(144, 20, 0, 0);
        int low = -99999;
        int high = 99999;
        while (high - low > 1) {
            int middle = Math.floorDiv(low + high, 2);
            x.offsets(0, middle);
            if (x.there(0) == FrameClocks.NONE) {
                high = middle;
            } else {
                low = middle;
            }
        }
        x.offsets(0, low);
        return x.there(0);
    }

    private static void eachOnItsOwn() {
        FrameClocks x = new FrameClocks();
        x.offsets(0, 10);
        x.offsets(1, 20);
        x.chases(0, 1);
        x.chases(1, 2);
        due("place 0", x.chaser(0, 0), 1);
        due("place 1", x.chaser(1, 0), 3);
        due("place 2", x.chaser(2, 0), 0);
        due("chases(2, 1000)", x.chases(2, 1000), 0);
        due("chases(1, 1000)", x.chases(1, 1000), 20);
    }

    private static void wrongNumbers() {
        FrameClocks x = new FrameClocks();
        due("chases(-1, 1)", x.chases(-1, 1), FrameClocks.BAD);
        due("chases(3, 1)", x.chases(3, 1), FrameClocks.BAD);
        due("chases(0, 0)", x.chases(0, 0), FrameClocks.BAD);
        due("chases(0, 1001)", x.chases(0, 1001), FrameClocks.BAD);
        due("chaser(-1, 0)", x.chaser(-1, 0), FrameClocks.NO);
        due("chaser(3, 0)", x.chaser(3, 0), FrameClocks.NO);
        due("chaser(0, -1)", x.chaser(0, -1), FrameClocks.NO);
        due("chaser(0, 4)", x.chaser(0, 4), FrameClocks.NO);
        due("there(-1)", x.there(-1), FrameClocks.BAD);
        due("there(3)", x.there(3), FrameClocks.BAD);
        due("refused", x.count(6), 0);
    }
}
