/** Promises 6 to 9: lays, winds, bit, plays. */
public final class TapeTest {
    private static final Checks CHECKS = new Checks();

    public static void main(String[] args) {
        lays();
        winds();
        bits();
        bitsByRate();
        plays();
        playsPartly();
        halves();
        shakes();
        CHECKS.end();
    }

    private static void due(String call, int got, int want) {
        CHECKS.due(call, got, want);
    }

    private static void lays() {
        FrameClocks x = new FrameClocks();
        due("lays(-1, 1, 0)", x.lays(-1, 1, 0), FrameClocks.BAD);
        due("lays(DAY, 1, 0)", x.lays(2160000, 1, 0), FrameClocks.BAD);
        due("lays(0, 0, 0)", x.lays(0, 0, 0), FrameClocks.BAD);
        due("lays(0, 41, 0)", x.lays(0, 41, 0), FrameClocks.BAD);
        due("lays(0, 1, -1)", x.lays(0, 1, -1), FrameClocks.BAD);
        due("lays(0, 1, 16)", x.lays(0, 1, 16), FrameClocks.BAD);
        due("nothing laid", x.count(2), 0);
        due("nothing to undo", x.count(6), 0);
        due("lays(DAY - 1, 1, 15)", x.lays(2159999, 1, 15), 1);
        due("bits", x.count(3), 48);
        due("lays(0, 40, 0)", x.lays(0, 40, 0), 2);
        due("bits", x.count(3), 48 * 41);
        due("head stays", x.count(4), 0);
        for (int i = 3; i <= 6; i++) {
            due("lays", x.lays(i, i, i), i);
        }
        due("BAD goes ahead of FULL", x.lays(0, 0, 0), FrameClocks.BAD);
        due("FULL", x.lays(0, 1, 0), FrameClocks.FULL);
        due("segments", x.count(2), 6);
        due("undo", x.undo(), 5);
        due("there is room again", x.lays(1, 1, 1), 6);
        due("bits", x.count(3), 48 * (41 + 3 + 4 + 5 + 1));
    }

    private static void winds() {
        FrameClocks x = new FrameClocks();
        due("winds(0)", x.winds(0), FrameClocks.STATE);
        due("winds(1)", x.winds(1), FrameClocks.BAD);
        x.lays(0, 2, 0);
        due("winds(-1)", x.winds(-1), FrameClocks.BAD);
        due("winds(97)", x.winds(97), FrameClocks.BAD);
        due("winds(96)", x.winds(96), 0);
        due("winds(96) again", x.winds(96), FrameClocks.STATE);
        due("winds(5)", x.winds(5), 96);
        due("head", x.count(4), 5);
        due("done", x.count(6), 3);
    }

    private static void bits() {
        FrameClocks x = new FrameClocks();
        int number = 19483721;
        x.rates(2);
        x.lays(x.frame(number), 2, 10);
        dueWord(x, 0, Checks.word(19, 48, 37, 21, 0, 10));
        dueWord(x, 48, Checks.word(19, 48, 37, 22, 0, 10));
        due("bit(-1)", x.bit(-1), FrameClocks.BAD);
        due("bit(96)", x.bit(96), FrameClocks.BAD);
        x.lays(0, 1, 1);
        dueWord(x, 96, Checks.word(0, 0, 0, 0, 0, 1));
        due("bit(144)", x.bit(144), FrameClocks.BAD);
        due("bit() is no call that is done", x.count(6), 3);
    }

    private static void bitsByRate() {
        FrameClocks x = new FrameClocks();
        x.lays(2159999, 2, 6);
        dueWord(x, 0, Checks.word(23, 59, 59, 24, 0, 6));
        dueWord(x, 48, Checks.word(0, 0, 0, 0, 0, 6));
        x.rates(3);
        int number = x.number(2159999);
        dueWord(x, 0, Checks.word(number / 1000000, number / 10000 % 100, number / 100 % 100, number % 100, 1, 6));
        x.lays(1799, 2, 0);
        dueWord(x, 96, Checks.word(0, 0, 59, 29, 1, 0));
        dueWord(x, 144, Checks.word(0, 1, 0, 2, 1, 0));
    }

    private static void dueWord(FrameClocks x, int from, int[] word) {
        for (int i = 0; i < 48; i++) {
            due("bit(" + (from + i) + ")", x.bit(from + i), word[i]);
        }
    }

    private static void plays() {
        FrameClocks x = new FrameClocks();
        due("no tape", x.plays(1, 20, 0, 0), FrameClocks.STATE);
        due("BAD goes ahead of STATE", x.plays(0, 20, 0, 0), FrameClocks.BAD);
        x.lays(0, 2, 0);
        due("plays(0, ..)", x.plays(0, 20, 0, 0), FrameClocks.BAD);
        due("plays(4801, ..)", x.plays(4801, 20, 0, 0), FrameClocks.BAD);
        due("u 0", x.plays(1, 0, 0, 0), FrameClocks.BAD);
        due("u 201", x.plays(1, 201, 0, 0), FrameClocks.BAD);
        due("w -1", x.plays(1, 20, -1, 0), FrameClocks.BAD);
        due("w 10", x.plays(1, 20, 10, 0), FrameClocks.BAD);
        due("back -1", x.plays(1, 20, 0, -1), FrameClocks.BAD);
        due("back 2", x.plays(1, 20, 0, 2), FrameClocks.BAD);
        due("nothing behind the head", x.plays(1, 20, 0, 1), FrameClocks.STATE);
        due("refused: done", x.count(6), 1);
        due("refused: head", x.count(4), 0);
        due("plays(4800, 200, 9, 0)", x.plays(4800, 200, 9, 0), 96);
        due("head", x.count(4), 96);
        due("at the end", x.plays(1, 1, 0, 0), FrameClocks.STATE);
        due("backward", x.plays(4800, 1, 0, 1), 96);
        due("head", x.count(4), 0);
        due("one", x.plays(1, 20, 0, 0), 1);
        due("the only one there", x.plays(2, 20, 0, 1), 1);
        x.winds(95);
        due("the last one", x.plays(9, 20, 0, 0), 1);
        due("head", x.count(4), 96);
        due("done", x.count(6), 7);
    }

    private static void playsPartly() {
        FrameClocks x = new FrameClocks();
        x.lays(10, 3, 2);
        due("plays(47)", x.plays(47, 20, 0, 0), 47);
        due("no reading yet", x.reader(3), 0);
        due("bits", x.reader(2), 47);
        due("plays(1)", x.plays(1, 20, 0, 0), 1);
        due("a reading", x.reader(3), 1);
        due("bits", x.reader(2), 0);
        due("plays(96)", x.plays(96, 20, 0, 0), 96);
        due("readings", x.reader(3), 3);
        x.winds(96);
        due("plays(48) back", x.plays(48, 20, 0, 1), 48);
        due("its frame", x.reading(0), 11);
        due("its course", x.reading(3), -1);
        due("head", x.count(4), 48);
    }

    /** A BIT 0 is one interval of two halves, a BIT 1 two of one half. */
    private static void halves() {
        FrameClocks x = new FrameClocks();
        x.lays(0, 1, 0);
        x.winds(33);
        x.plays(1, 30, 0, 0);
        due("cell behind a 0", x.reader(0), (3 * 40 + 60) / 4);
        x.plays(1, 15, 0, 0);
        due("cell behind a 1", x.reader(0), (3 * 45 + 30) / 4);
        due("bits", x.reader(2), 2);
        due("none waits", x.reader(1), 0);
    }

    private static void shakes() {
        FrameClocks x = new FrameClocks();
        x.lays(0, 1, 0);
        // halves of 20, 23, 21, 24, 22 and 20 again, over noughts
        x.plays(6, 20, 3, 0);
        int cell = 40;
        for (int half : new int[] {20, 23, 21, 24, 22, 20}) {
            cell = (3 * cell + 2 * half) / 4;
        }
        due("cell", x.reader(0), cell);
        // each play counts its BITS anew
        x.plays(1, 24, 3, 0);
        cell = (3 * cell + 48) / 4;
        due("cell", x.reader(0), cell);
        x.winds(6);
        x.begins();
        x.plays(3, 20, 9, 1);
        due("cell backward", x.reader(0), (3 * ((3 * 40 + 48) / 4) + 46) / 4);
    }
}
