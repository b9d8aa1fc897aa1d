/** Of MISSED and THE WHEEL, and promises 14 to 16. */
final class WheelSentences extends Sentences {
    private static final String LOCKED = Scenes.playedForward(10, 3) + "wheel(0) = 12; wheel(4) = 1;";

    WheelSentences(Checks checks, Document document) {
        super(checks, document);
    }

    @Override
    void test() {
        holdAtFirst();
        holdsOfAllSizes();
        holdToldBetween();
        notLocked();
        bothWays();
        wheelAtFirst();
        misses();
        holds();
        wheel();
    }

    private void holdAtFirst() {
        says("Terms", "MISSED: a FRAME's time goes by without a READING: if it is LOCKED and MISSED is less than HOLD (0 .. 99; 5 at first), "
            + "MISSED is 1 more, THE WHEEL goes on by 1 or -1; else STREAK is 0.");
        run(LOCKED + "wheel(3) = 5; misses() = 13; wheel(2) = 1; misses() = 14; misses() = 15; misses() = 16; misses() = 17;"
            + "wheel(2) = 5; reader(7) = 3; wheel(4) = 1; misses() = 17; wheel(2) = 5; reader(7) = 0; wheel(4) = 0;"
            + "misses() = 17; wheel(2) = 5; reader(7) = 0");
        // STREAK is 0, but the READING stays: the next one FOLLOWS it
        run(LOCKED + "misses();".repeat(6) + "reading(0) = 12;" + Scenes.playedForward(13, 1) + "reader(7) = 1; reader(6) = 0;"
            + "wheel(0) = 17; wheel(2) = 5;" + Scenes.playedForward(14, 2) + "reader(7) = 3; wheel(0) = 15; wheel(2) = 0");
    }

    private void holdsOfAllSizes() {
        for (int hold : new int[] {0, 1, 2, 98, 99}) {
            Run run = run(LOCKED + "holds(" + hold + ") = 5");
            for (int i = 1; i <= hold; i++) {
                run.rows("misses() = " + (12 + i) + "; wheel(2) = " + i + "; wheel(4) = 1");
            }
            run.rows("misses() = " + (12 + hold) + "; wheel(2) = " + hold + "; wheel(4) = 0; reader(7) = 0");
        }
    }

    private void holdToldBetween() {
        String three = LOCKED + "misses(); misses(); misses() = 15;";
        run(three + "holds(4) = 5; misses() = 16; wheel(4) = 1; misses() = 16; wheel(4) = 0");
        run(three + "holds(3) = 5; wheel(4) = 1; misses() = 15; wheel(2) = 3; wheel(4) = 0");
        run(three + "holds(2) = 5; wheel(4) = 1; wheel(2) = 3; misses() = 15; wheel(2) = 3; wheel(4) = 0");
        run(three + "holds(3); holds(4) = 3; misses() = 16; wheel(2) = 4; wheel(4) = 1");
        // HOLD that is told when the lock is lost does not bring it back
        run(three + "holds(3); misses() = 15; holds(9); misses() = 15; wheel(2) = 3; wheel(4) = 0");
    }

    private void notLocked() {
        run("misses() = 0; reader(7) = 0; wheel(2) = 0");
        run(Scenes.playedForward(10, 1) + "reader(7) = 1; misses() = 0; reader(7) = 0; wheel(2) = 0");
        run(Scenes.playedForward(10, 2) + "reader(7) = 2; misses() = 0; reader(7) = 0; wheel(2) = 0; wheel(0) = 0;"
            + Scenes.playedForward(12, 2) + "reader(7) = 2; wheel(4) = 0;" + Scenes.playedForward(14, 1) + "wheel(4) = 1; wheel(0) = 14");
        run(LOCKED + "misses() = 13; begins(); misses() = 13; wheel(2) = 1; reader(7) = 0");
        leaves(LOCKED, "misses();", "reader(0); reader(1); reader(2); reader(3); reader(4); reader(5); reader(6); reader(7);"
            + "reading(0); reading(1); reading(2); reading(3); wheel(1); wheel(3); wheel(4); count(4); chaser(0, 0)");
    }

    private void bothWays() {
        run(Scenes.playedForward(2159997, 3) + "wheel(0) = 2159999; wheel(1) = 1; misses() = 0; misses() = 1");
        run(Scenes.playedBackward(1, 3) + "wheel(0) = 1; wheel(1) = -1; misses() = 0; misses() = 2159999; misses() = 2159998;"
            + "wheel(2) = 3");
        // the day that it goes round is the day of THE RATE as it is now
        run("rates(0);" + Scenes.playedForward(2073597, 3) + "rates(2); misses() = 2073600");
        run(Scenes.playedBackward(0, 3) + "rates(2); misses() = 2591999; rates(0); wheel(0) = 518399; misses() = 518398");
    }

    private void wheelAtFirst() {
        says("Terms", "(THE WHEEL is at 0, goes on by 1 at first.)");
        run("wheel(0) = 0; wheel(1) = 1; wheel(2) = 0; wheel(4) = 0");
    }

    private void misses() {
        says("Promise 14", "MISSED: the FRAME at which THE WHEEL is then.");
        run("misses() = 0");
        run(Scenes.BUSY + "misses() = 4; misses() = 5; wheel(0) = 5; wheel(2) = 4");
        canBeUndone(Scenes.NEW, "misses() = 0");
        canBeUndone(Scenes.BUSY, "misses() = 4");
        canBeUndone(LOCKED + "holds(0);", "misses() = 12");
    }

    private void holds() {
        says("Promise 15", "HOLD becomes n: what it was.");
        run("holds(0) = 5; wheel(3) = 0; holds(99) = 0; wheel(3) = 99; holds(5) = 99");
        canBeUndone(Scenes.BUSY, "holds(0) = 8; holds(99) = 8; holds(7) = 8; holds(9) = 8");
        leaves(Scenes.BUSY, "holds(0);", "wheel(0); wheel(1); wheel(2); wheel(4); reader(7)");
        says("Promise 15", "BAD; STATE: it is that.");
        String bad = "holds(-1) = BAD; holds(100) = BAD; holds(MIN) = BAD; holds(MAX) = BAD";
        changesNothing(Scenes.BUSY, bad + "; holds(8) = STATE");
        changesNothing(Scenes.FULL, bad + "; holds(15) = STATE");
        changesNothing(Scenes.NEW, bad + "; holds(5) = STATE");
        changesNothing("holds(0);", "holds(-1) = BAD; holds(0) = STATE");
        changesNothing("holds(99);", "holds(100) = BAD; holds(99) = STATE");
    }

    private void wheel() {
        says("Promise 16", "Of THE WHEEL: 0 its FRAME, 1 how it goes on (1, -1), 2 MISSED, 3 HOLD, 4 whether it is LOCKED (1, 0). NO: BAD.");
        changesNothing(Scenes.BUSY, "wheel(MIN) = NO; wheel(-1) = NO; wheel(0) = 3; wheel(1) = 1; wheel(2) = 2; wheel(3) = 8; wheel(4) = 1;"
            + "wheel(5) = NO; wheel(MAX) = NO");
        changesNothing(Scenes.NEW, "wheel(-1) = NO; wheel(0) = 0; wheel(4) = 0; wheel(5) = NO");
    }
}
