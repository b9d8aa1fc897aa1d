/** Of CHASERS, and promises 17 to 20. */
final class ChaserSentences extends Sentences {
    private static final int[] DAYS = {2073600, 2160000, 2592000, 2589408};

    ChaserSentences(Checks checks, Document document) {
        super(checks, document);
    }

    @Override
    void test() {
        atFirst();
        speeds();
        ways();
        waysRoundTheDay();
        wanted();
        wantedMost();
        nearest();
        there();
        offsets();
        chases();
        chaser();
        inHowManySteps();
        tooManySteps();
    }

    private void atFirst() {
        says("Terms", "4 CHASERS 0 to 2: each has a PLACE (a FRAME; 0 at first), a SPEED (-99 .. 99; 0 at first) "
            + "and an OFFSET (-99999 .. 99999; 0 at first).");
        for (int c = 0; c < 3; c++) {
            run("chaser(" + c + ", 0) = 0; chaser(" + c + ", 1) = 0; chaser(" + c + ", 2) = 0; chaser(" + c + ", 3) = 0");
        }
        for (int c : new int[] {-1, 3}) {
            changesNothing(Scenes.BUSY, "offsets(" + c + ", 1) = BAD; chases(" + c + ", 1) = BAD; chaser(" + c + ", 0) = NO;"
                + "there(" + c + ") = BAD");
        }
        // each on its own
        run("offsets(0, 10); offsets(1, 20); chases(0, 1) = 1; chases(1, 2) = 3; chaser(0, 0) = 1; chaser(1, 0) = 3; chaser(2, 0) = 0;"
            + "chaser(2, 2) = 0; chases(2, 1000) = 0; chases(1, 1000) = 20; chaser(0, 0) = 1; chaser(0, 1) = 1; chaser(1, 1) = 0");
    }

    private void speeds() {
        run("offsets(0, 99999); chases(0, 98) = 4851; chaser(0, 1) = 98; chases(0, 1) = 4950; chaser(0, 1) = 99;"
            + "chases(0, 1) = 5049; chaser(0, 1) = 99; chases(0, 900) = 94149; chaser(0, 1) = 99");
        run("offsets(1, -99999); chases(1, 98) = 2155149; chaser(1, 1) = -98; chases(1, 1) = 2155050; chaser(1, 1) = -99;"
            + "chases(1, 1) = 2154951; chaser(1, 1) = -99; chases(1, 900) = 2065851; chaser(1, 1) = -99");
    }

    private void ways() {
        says("Terms", "Its WAY: by how many FRAMES it is from its PLACE to THE WHEEL and OFFSET, going the shorter way round the day "
            + "(forward, if both are as long).");
        for (int r = 0; r < 4; r++) {
            int half = DAYS[r] / 2;
            String rate = "rates(" + r + ");";
            run(rate + Scenes.playedForward(half - 2, 3) + "chaser(0, 3) = " + half + "; offsets(0, 1); chaser(0, 3) = " + (1 - half)
                + "; offsets(0, -1); chaser(0, 3) = " + (half - 1) + "; chases(1, 1) = 1; chaser(1, 1) = 1");
            run(rate + Scenes.playedForward(half - 1, 3) + "chaser(0, 3) = " + (1 - half) + "; chases(0, 1) = " + (DAYS[r] - 1));
            // from PLACE 1, and from the last one
            run(rate + "offsets(0, 1); chases(0, 2) = 1; offsets(0, 0);" + Scenes.playedForward(half - 1, 3)
                + "wheel(0) = " + (half + 1) + "; chaser(0, 3) = " + half);
            run(rate + "offsets(0, -1); chases(0, 2) = " + (DAYS[r] - 1) + "; offsets(0, 0);" + Scenes.playedForward(half - 3, 3)
                + "wheel(0) = " + (half - 1) + "; chaser(0, 3) = " + half + "; offsets(0, 1); chaser(0, 3) = " + (1 - half));
        }
    }

    private void waysRoundTheDay() {
        for (int r = 0; r < 4; r++) {
            String rate = "rates(" + r + ");";
            run(rate + Scenes.playedForward(DAYS[r] - 3, 3) + "chaser(0, 3) = -1; offsets(0, 1); chaser(0, 3) = 0; offsets(0, 99999);"
                + "chaser(0, 3) = 99998; offsets(0, -99999); chaser(0, 3) = -100000");
            run(rate + "offsets(0, -1); chaser(0, 3) = -1; offsets(0, 1); chaser(0, 3) = 1; offsets(0, 99999); chaser(0, 3) = 99999;"
                + "offsets(0, -99999); chaser(0, 3) = -99999");
            run(rate + "offsets(0, -1); chases(0, 2) = " + (DAYS[r] - 1) + "; chaser(0, 3) = 0; offsets(0, 1); chaser(0, 3) = 2");
        }
    }

    /** At SPEED k: one FRAME too short for it, just enough, the last that is not enough for one more, enough for that. */
    private void wanted() {
        says("Terms", "A STEP: WANTED: the greatest number k (0 .. 99) with k times (k and 1) by 2 not above the size of WAY, "
            + "less than 0 if WAY is;");
        for (int k = 1; k <= 99; k++) {
            int sum = k * (k + 1) / 2;
            for (int sign = -1; sign <= 1; sign += 2) {
                dueSpeed(sign, k, sum - 1, k - 1);
                dueSpeed(sign, k, sum, k);
                dueSpeed(sign, k, sum + k, k);
                dueSpeed(sign, k, sum + k + 1, k < 99 ? k + 1 : 99);
            }
        }
        run("chases(0, 1) = 0; chaser(0, 1) = 0");
    }

    private void dueSpeed(int sign, int k, int way, int speed) {
        int place = k * (k + 1) / 2;
        run("offsets(0, " + sign * 99999 + "); chases(0, " + k + "); chaser(0, 1) = " + sign * k + "; offsets(0, " + sign * (place + way)
            + "); chaser(0, 3) = " + sign * way + "; chases(0, 1) = " + Math.floorMod(sign * (place + speed), 2160000)
            + "; chaser(0, 1) = " + sign * speed);
    }

    private void wantedMost() {
        for (int way : new int[] {4950, 5049, 5050, 5149, 5150, 90000}) {
            dueSpeed(1, 99, way, 99);
            dueSpeed(-1, 99, way, 99);
        }
        dueSpeed(1, 99, 4949, 98);
        dueSpeed(-1, 99, 4949, 98);
    }

    private void nearest() {
        says("Terms", "SPEED becomes the number nearest to WANTED of SPEED less 1, SPEED, SPEED and 1; PLACE goes on by it.");
        // up by 1 a STEP, down by 1 a STEP
        dueSteps("offsets(0, 6);", new int[] {1, 3, 5, 6, 6}, new int[] {1, 2, 2, 1, 0});
        dueSteps("offsets(0, -6);", new int[] {2159999, 2159997, 2159995, 2159994, 2159994}, new int[] {-1, -2, -2, -1, 0});
        // it overruns, as WANTED turns all at once
        dueSteps("offsets(0, 100); chases(0, 3); offsets(0, 0);", new int[] {8, 9, 9, 8, 6, 3, 1, 0, 0, 0},
            new int[] {2, 1, 0, -1, -2, -3, -2, -1, 0, 0});
        dueSteps("offsets(0, -100); chases(0, 3); offsets(0, 0);",
            new int[] {2159992, 2159991, 2159991, 2159992, 2159994, 2159997, 2159999, 0, 0, 0}, new int[] {-2, -1, 0, 1, 2, 3, 2, 1, 0, 0});
    }

    private void dueSteps(String ahead, int[] places, int[] speeds) {
        Run run = run(ahead);
        for (int i = 0; i < places.length; i++) {
            run.rows("chases(0, 1) = " + places[i] + "; chaser(0, 0) = " + places[i] + "; chaser(0, 1) = " + speeds[i]);
        }
        int all = places.length;
        run(ahead + "chases(0, " + all + ") = " + places[all - 1] + "; chaser(0, 1) = " + speeds[all - 1]);
    }

    private void there() {
        says("Terms", "THERE: WAY and SPEED are 0.");
        run("there(0) = 0; offsets(0, 1); chaser(0, 3) = 1; chaser(0, 1) = 0; there(0) = 2; chases(0, 1); chaser(0, 3) = 0;"
            + "chaser(0, 1) = 1; there(0) = 1; chases(0, 1); chaser(0, 3) = 0; chaser(0, 1) = 0; there(0) = 0");
    }

    private void offsets() {
        says("Promise 17", "OFFSET of a CHASER becomes n: 1.");
        run("offsets(0, 99999) = 1; chaser(0, 2) = 99999; offsets(1, -99999) = 1; chaser(1, 2) = -99999; chaser(2, 2) = 0;"
            + "offsets(0, 0) = 1; chaser(0, 2) = 0; offsets(2, -1) = 1; chaser(2, 2) = -1; chaser(1, 2) = -99999");
        canBeUndone(Scenes.BUSY, "offsets(0, 99999) = 1; offsets(0, -99999) = 1; offsets(1, 0) = 1; offsets(2, -1) = 1");
        leaves(Scenes.BUSY, "offsets(0, 0);", "chaser(0, 0); chaser(0, 1); chaser(1, 2); chaser(2, 2); wheel(0)");
        says("Promise 17", "BAD; STATE: it is that.");
        String bad = "offsets(-1, 1) = BAD; offsets(3, 1) = BAD; offsets(MIN, 1) = BAD; offsets(MAX, 1) = BAD; offsets(0, -100000) = BAD;"
            + "offsets(0, 100000) = BAD; offsets(2, MIN) = BAD; offsets(2, MAX) = BAD; offsets(1, NO) = BAD; offsets(3, 100000) = BAD";
        // what there is not has no OFFSET that could be that: BAD goes ahead of STATE
        String noSuch = "offsets(-1, 0) = BAD; offsets(3, 0) = BAD; offsets(3, 99999) = BAD";
        changesNothing(Scenes.BUSY, bad + ";" + noSuch + "; offsets(0, 5) = STATE; offsets(1, -300) = STATE; offsets(2, 99999) = STATE");
        changesNothing(Scenes.NEW, bad + ";" + noSuch + "; offsets(0, 0) = STATE; offsets(1, 0) = STATE; offsets(2, 0) = STATE");
        changesNothing("offsets(0, -99999);", "offsets(0, -100000) = BAD; offsets(0, -99999) = STATE");
    }

    private void chases() {
        says("Promise 18", "n STEPS (1 .. 1000) of a CHASER: its PLACE. BAD.");
        String far = Scenes.playedForward(499998, 3);
        run(far + "chases(0, 1) = 1; chases(1, 1000) = 94149; chases(0, 999) = 94149; chaser(0, 1) = 99; chaser(1, 1) = 99");
        canBeUndone(Scenes.NEW, "chases(0, 1) = 0; chases(2, 1000) = 0");
        canBeUndone(Scenes.BUSY, "chases(0, 1) = 5; chases(1, 1) = 2591945; chases(2, 1) = 496; chases(0, 1000) = 8; chases(1, 1000) = 2591703");
        leaves(Scenes.BUSY, "chases(0, 9);", "chaser(0, 2); chaser(1, 0); chaser(1, 1); chaser(2, 0); chaser(2, 1); wheel(0); wheel(2)");
        String bad = "chases(-1, 1) = BAD; chases(3, 1) = BAD; chases(MIN, 1) = BAD; chases(MAX, 1) = BAD; chases(0, 0) = BAD;"
            + "chases(0, 1001) = BAD; chases(0, -1) = BAD; chases(0, MIN) = BAD; chases(0, MAX) = BAD; chases(3, 0) = BAD";
        changesNothing(Scenes.BUSY, bad);
        changesNothing(Scenes.NEW, bad);
        changesNothing(Scenes.FULL, bad);
    }

    private void chaser() {
        says("Promise 19", "Of a CHASER: 0 PLACE, 1 SPEED, 2 OFFSET, 3 WAY. NO: BAD.");
        changesNothing(Scenes.BUSY, "chaser(0, 0) = 3; chaser(0, 1) = 2; chaser(0, 2) = 5; chaser(0, 3) = 5; chaser(1, 0) = 2591955;"
            + "chaser(1, 1) = -9; chaser(1, 2) = -300; chaser(1, 3) = -252; chaser(2, 0) = 465; chaser(2, 1) = 30; chaser(2, 2) = 99999;"
            + "chaser(2, 3) = 99537");
        String bad = "chaser(-1, 0) = NO; chaser(3, 0) = NO; chaser(MIN, 0) = NO; chaser(MAX, 0) = NO; chaser(0, -1) = NO; chaser(0, 4) = NO;"
            + "chaser(2, MIN) = NO; chaser(2, MAX) = NO; chaser(3, 4) = NO";
        changesNothing(Scenes.BUSY, bad);
        changesNothing(Scenes.NEW, bad);
    }

    private void inHowManySteps() {
        says("Promise 20", "In how many STEPS (0 .. 3000) a CHASER is THERE; NONE: in none of these. BAD.");
        int[] steps = {0, 2, 3, 4, 4, 5, 5, 6};
        for (int way = 1; way < steps.length; way++) {
            run("offsets(0, " + way + "); there(0) = " + steps[way] + "; offsets(1, " + -way + "); there(1) = " + steps[way]
                + "; chases(0, " + (steps[way] - 1) + "); there(0) = 1; chases(0, 1); there(0) = 0");
        }
        String bad = "there(-1) = BAD; there(3) = BAD; there(MIN) = BAD; there(MAX) = BAD";
        changesNothing(Scenes.BUSY, bad + "; there(0) = 4; there(2) = 1080");
        changesNothing(Scenes.NEW, bad + "; there(0) = 0; there(1) = 0; there(2) = 0");
    }

    /** A WAY of 287199 from rest takes 3000 STEPS, one more takes 3001. */
    private void tooManySteps() {
        for (int sign = -1; sign <= 1; sign += 2) {
            String far = Scenes.playedForward(Math.floorMod(sign * 287199, 2160000) - 2, 3) + "chaser(0, 3) = " + sign * 287199 + ";";
            run(far + "there(0) = 3000; chases(0, 1000); there(0) = 2000; chases(0, 1000); there(0) = 1000; chases(0, 999); there(0) = 1;"
                + "chases(0, 1); there(0) = 0");
            run(far + "offsets(0, " + sign + "); there(0) = NONE; chases(0, 1); there(0) = 3000; chases(0, 1000); there(0) = 2000;"
                + "chases(0, 1000); chases(0, 999); there(0) = 1; chases(0, 1); there(0) = 0");
            run(far + "offsets(0, " + -99 * sign + "); there(0) = 2999; offsets(0, " + -98 * sign + "); there(0) = 3000");
            changesNothing(far + "offsets(0, " + sign + ");", "there(0) = NONE; there(1) = 3000");
        }
        run(Scenes.playedForward(1079998, 3) + "there(0) = NONE");
    }
}
