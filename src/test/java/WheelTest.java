/** Promises 14 to 16: misses, holds, wheel. */
public final class WheelTest {
    private static final Checks CHECKS = new Checks();

    public static void main(String[] args) {
        notLocked();
        goesOn();
        goesBackward();
        comesBack();
        lockIsFoundAgain();
        holds();
        wrongNumbers();
        CHECKS.end();
    }

    private static void due(String call, int got, int want) {
        CHECKS.due(call, got, want);
    }

    private static FrameClocks played(int frame, int length, int back) {
        FrameClocks x = new FrameClocks();
        x.lays(frame, length, 0);
        if (back == 1) {
            x.winds(48 * length);
        }
        x.plays(4800, 20, 0, back);
        return x;
    }

    private static void notLocked() {
        FrameClocks x = played(100, 2, 0);
        due("streak", x.reader(7), 2);
        due("misses()", x.misses(), 0);
        due("streak", x.reader(7), 0);
        due("missed", x.wheel(2), 0);
        due("done", x.count(6), 3);
        due("misses()", x.misses(), 0);
    }

    private static void goesOn() {
        FrameClocks x = played(2159995, 3, 0);
        due("wheel", x.wheel(0), 2159997);
        due("locked", x.wheel(4), 1);
        int[] frames = {2159998, 2159999, 0, 1, 2};
        for (int i = 0; i < frames.length; i++) {
            due("misses() " + i, x.misses(), frames[i]);
            due("missed " + i, x.wheel(2), i + 1);
            due("streak " + i, x.reader(7), 3);
        }
        due("held long enough", x.misses(), 2);
        due("streak", x.reader(7), 0);
        due("missed", x.wheel(2), 5);
        due("locked", x.wheel(4), 0);
        due("misses()", x.misses(), 2);
    }

    private static void goesBackward() {
        FrameClocks x = played(1, 3, 1);
        due("wheel", x.wheel(0), 1);
        due("course", x.wheel(1), -1);
        due("misses()", x.misses(), 0);
        due("misses()", x.misses(), 2159999);
        x.begins();
        due("course stays", x.wheel(1), -1);
        due("missed stays", x.wheel(2), 2);
        due("not locked", x.misses(), 2159999);
    }

    private static void comesBack() {
        FrameClocks x = played(10, 5, 0);
        x.misses();
        x.misses();
        due("wheel", x.wheel(0), 16);
        Checks.give(x, Checks.word(0, 0, 0, 15, 0, 0));
        due("the reading sets it", x.wheel(0), 15);
        due("missed", x.wheel(2), 0);
        due("streak", x.reader(7), 6);
    }

    /** MISSED stays where it is until THE READER is locked again. */
    private static void lockIsFoundAgain() {
        FrameClocks x = played(10, 3, 0);
        x.holds(1);
        due("misses()", x.misses(), 13);
        due("misses()", x.misses(), 13);
        due("streak", x.reader(7), 0);
        Checks.give(x, Checks.word(0, 0, 0, 13, 0, 0));
        due("it follows", x.reader(7), 1);
        due("no jump", x.reader(6), 0);
        Checks.give(x, Checks.word(0, 0, 0, 14, 0, 0));
        due("missed", x.wheel(2), 1);
        due("wheel", x.wheel(0), 13);
        Checks.give(x, Checks.word(0, 0, 0, 15, 0, 0));
        due("missed", x.wheel(2), 0);
        due("wheel", x.wheel(0), 15);
        due("locked", x.wheel(4), 1);
    }

    private static void holds() {
        FrameClocks x = played(10, 3, 0);
        due("holds(-1)", x.holds(-1), FrameClocks.BAD);
        due("holds(100)", x.holds(100), FrameClocks.BAD);
        due("holds(5)", x.holds(5), FrameClocks.STATE);
        due("refused", x.count(6), 2);
        due("holds(99)", x.holds(99), 5);
        due("wheel(3)", x.wheel(3), 99);
        for (int i = 1; i <= 99; i++) {
            due("misses()", x.misses(), 12 + i);
        }
        due("the hundredth", x.misses(), 111);
        due("locked", x.wheel(4), 0);
        FrameClocks y = played(10, 3, 0);
        due("holds(0)", y.holds(0), 5);
        due("misses()", y.misses(), 12);
        due("streak", y.reader(7), 0);
        due("missed", y.wheel(2), 0);
    }

    private static void wrongNumbers() {
        FrameClocks x = new FrameClocks();
        due("wheel(-1)", x.wheel(-1), FrameClocks.NO);
        due("wheel(5)", x.wheel(5), FrameClocks.NO);
        due("wheel(min)", x.wheel(Integer.MIN_VALUE), FrameClocks.NO);
    }
}
