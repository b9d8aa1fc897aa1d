/** Promises 10 to 13: edge, begins, reader, reading. */
public final class ReaderTest {
    private static final Checks CHECKS = new Checks();

    public static void main(String[] args) {
        intervals();
        lowestCell();
        fortyEightBits();
        forward();
        readByAnotherRate();
        backward();
        bothSyncs();
        broken();
        brokenByRate();
        streaksAndJumps();
        turns();
        roundTheDay();
        begins();
        wrongNumbers();
        CHECKS.end();
    }

    private static void due(String call, int got, int want) {
        CHECKS.due(call, got, want);
    }

    private static void intervals() {
        FrameClocks x = new FrameClocks();
        due("edge(0)", x.edge(0), FrameClocks.BAD);
        due("edge(-5)", x.edge(-5), FrameClocks.BAD);
        due("edge(10000)", x.edge(10000), FrameClocks.BAD);
        due("refused", x.count(6), 0);
        // 4 times 30 is not more than 3 times 40
        due("edge(30)", x.edge(30), 0);
        due("waits", x.reader(1), 30);
        due("cell stays", x.reader(0), 40);
        due("edge(30)", x.edge(30), 1);
        due("none waits", x.reader(1), 0);
        due("cell", x.reader(0), 45);
        due("edge(34)", x.edge(34), 2);
        due("cell", x.reader(0), 42);
        due("edge(7)", x.edge(7), 2);
        due("no error yet", x.reader(5), 0);
        due("edge(42)", x.edge(42), 3);
        due("error", x.reader(5), 1);
        due("none waits", x.reader(1), 0);
        due("cell", x.reader(0), 42);
        due("edge(9999)", x.edge(9999), 4);
        due("cell", x.reader(0), 2531);
        due("done", x.count(6), 6);
    }

    /** Cut to a whole number, CELL does not fall below 2 by the shortest intervals. */
    private static void lowestCell() {
        FrameClocks x = new FrameClocks();
        for (int i = 0; i < 100; i++) {
            x.edge(1);
        }
        due("cell", x.reader(0), 2);
        due("edge(1) waits", x.edge(1), 48);
        due("waits", x.reader(1), 1);
        due("edge(2) is a whole", x.edge(2), 48);
        due("cell", x.reader(0), 2);
        due("none waits", x.reader(1), 0);
        due("error", x.reader(5), 1);
    }

    private static void fortyEightBits() {
        FrameClocks x = new FrameClocks();
        for (int i = 1; i <= 60; i++) {
            due("edge(40), " + i, x.edge(40), Math.min(i, 48));
        }
        due("bits", x.reader(2), 48);
        due("give", Checks.give(x, Checks.word(1, 2, 3, 4, 0, 5)), 0);
        due("a word behind other bits", x.reading(1), 1020304);
    }

    private static void forward() {
        FrameClocks x = new FrameClocks();
        due("edges answer 0", Checks.give(x, Checks.word(12, 34, 56, 7, 0, 13)), 0);
        due("frame", x.reading(0), ((12 * 60 + 34) * 60 + 56) * 25 + 7);
        due("number", x.reading(1), 12345607);
        due("user", x.reading(2), 13);
        due("forward", x.reading(3), 1);
        due("readings", x.reader(3), 1);
        due("streak", x.reader(7), 1);
        due("jumps", x.reader(6), 0);
        due("not locked: the wheel stays", x.wheel(0), 0);
        x.rates(0);
        Checks.give(x, Checks.word(19, 49, 39, 19, 0, 0));
        due("nines", x.reading(1), 19493919);
    }

    private static void readByAnotherRate() {
        FrameClocks x = new FrameClocks();
        Checks.give(x, Checks.word(12, 34, 56, 7, 0, 13));
        x.rates(0);
        due("the frame stays", x.reading(0), ((12 * 60 + 34) * 60 + 56) * 25 + 7);
    }

    private static void backward() {
        FrameClocks x = new FrameClocks();
        int[] word = Checks.turned(Checks.word(23, 59, 58, 24, 0, 9));
        due("edges answer 0", Checks.give(x, word), 0);
        due("number", x.reading(1), 23595824);
        due("frame", x.reading(0), 2159999 - 25);
        due("user", x.reading(2), 9);
        due("backward", x.reading(3), -1);
        FrameClocks y = new FrameClocks();
        Checks.give(y, new int[] {1, 0, 1});
        Checks.give(y, word);
        due("backward behind other bits", y.reading(1), 23595824);
    }

    /** SYNC at both ends: BITS 0 to 3 are 13 the one way and the other, so it is BROKEN once. */
    private static void bothSyncs() {
        FrameClocks x = new FrameClocks();
        int[] word = Checks.word(0, 0, 0, 0, 0, 0);
        System.arraycopy(Checks.turned(word), 0, word, 0, 16);
        due("edges answer 0", Checks.give(x, word), 0);
        due("broken", x.reader(4), 1);
        due("no reading", x.reader(3), 0);
    }

    private static void broken() {
        dueBroken("f 25", Checks.word(0, 0, 0, 25, 0, 0));
        dueBroken("seconds 60", Checks.word(0, 0, 60, 0, 0, 0));
        dueBroken("minutes 60", Checks.word(0, 60, 0, 0, 0, 0));
        dueBroken("hours 24", Checks.word(24, 0, 0, 0, 0, 0));
        dueBroken("hours 39", Checks.word(39, 0, 0, 0, 0, 0));
        dueBroken("dropped", Checks.word(0, 0, 0, 0, 1, 0));
        for (int at : new int[] {0, 6, 13, 20}) {
            int[] word = Checks.word(0, 0, 0, 0, 0, 0);
            Checks.put(word, at, 4, 10);
            dueBroken("10 at " + at, word);
        }
        for (int i = 0; i < 32; i++) {
            int[] word = Checks.word(10, 10, 10, 10, 0, 0);
            word[i] = 1 - word[i];
            dueBroken("parity " + i, word);
        }
    }

    private static void dueBroken(String name, int[] word) {
        for (int way = 0; way < 2; way++) {
            FrameClocks x = new FrameClocks();
            Checks.give(x, Checks.word(0, 0, 0, 1, 0, 0));
            due(name + ": edges answer 0", Checks.give(x, way == 0 ? word : Checks.turned(word)), 0);
            due(name + ": broken", x.reader(4), 1);
            due(name + ": readings", x.reader(3), 1);
            due(name + ": the latest stays", x.reading(1), 1);
            due(name + ": bits", x.reader(2), 0);
            due(name + ": streak stays", x.reader(7), 1);
            due(name + ": no jump", x.reader(6), 0);
        }
    }

    private static void brokenByRate() {
        FrameClocks x = new FrameClocks();
        x.rates(3);
        Checks.give(x, Checks.word(0, 1, 0, 2, 0, 0));
        due("not as the rate has it", x.reader(4), 1);
        Checks.give(x, Checks.word(0, 1, 0, 1, 1, 0));
        due("a number that is dropped", x.reader(4), 2);
        Checks.give(x, Checks.word(0, 1, 0, 2, 1, 0));
        due("one that is not", x.reading(0), 1800);
        Checks.give(x, Checks.word(0, 10, 0, 0, 1, 0));
        due("the tenth minute", x.reading(0), 17982);
        Checks.give(x, Checks.word(0, 10, 0, 30, 1, 0));
        due("f 30", x.reader(4), 3);
        x.rates(0);
        Checks.give(x, Checks.word(0, 0, 0, 24, 0, 0));
        due("f 24 by 24", x.reader(4), 4);
        x.rates(2);
        Checks.give(x, Checks.word(0, 0, 0, 29, 0, 0));
        due("f 29 by 30", x.reading(0), 29);
    }

    private static void streaksAndJumps() {
        FrameClocks x = new FrameClocks();
        int[] frames = {5, 6, 7, 7, 8, 6};
        int[] streaks = {1, 2, 3, 1, 2, 1};
        int[] jumps = {0, 0, 0, 1, 1, 2};
        int[] wheels = {0, 0, 7, 7, 7, 7};
        for (int i = 0; i < frames.length; i++) {
            Checks.give(x, Checks.word(0, 0, 0, frames[i], 0, 0));
            due("streak " + i, x.reader(7), streaks[i]);
            due("jumps " + i, x.reader(6), jumps[i]);
            due("wheel " + i, x.wheel(0), wheels[i]);
            due("locked " + i, x.wheel(4), streaks[i] >= 3 ? 1 : 0);
        }
        due("readings", x.reader(3), frames.length);
    }

    /** Whether one FOLLOWS goes by its own way, not by the way of the one ahead of it. */
    private static void turns() {
        FrameClocks x = new FrameClocks();
        Checks.give(x, Checks.word(0, 0, 0, 5, 0, 0));
        Checks.give(x, Checks.turned(Checks.word(0, 0, 0, 4, 0, 0)));
        due("it follows", x.reader(7), 2);
        Checks.give(x, Checks.word(0, 0, 0, 5, 0, 0));
        due("it follows again", x.reader(7), 3);
        due("the wheel stands there", x.wheel(0), 5);
        due("it goes forward", x.wheel(1), 1);
        Checks.give(x, Checks.turned(Checks.word(0, 0, 0, 4, 0, 0)));
        due("the wheel stands there", x.wheel(0), 4);
        due("it goes backward", x.wheel(1), -1);
        Checks.give(x, Checks.turned(Checks.word(0, 0, 0, 5, 0, 0)));
        due("backward to a higher one is a jump", x.reader(6), 1);
        due("the wheel stays", x.wheel(0), 4);
    }

    private static void roundTheDay() {
        FrameClocks x = new FrameClocks();
        x.lays(2159998, 4, 0);
        x.plays(192, 20, 0, 0);
        due("streak", x.reader(7), 4);
        due("frame", x.reading(0), 1);
        x.begins();
        x.plays(192, 20, 0, 1);
        due("streak backward", x.reader(7), 4);
        due("frame backward", x.reading(0), 2159998);
        due("wheel", x.wheel(0), 2159998);
    }

    private static void begins() {
        FrameClocks x = new FrameClocks();
        due("begins()", x.begins(), 0);
        due("done", x.count(6), 1);
        x.lays(100, 4, 0);
        x.holds(7);
        x.plays(192, 25, 0, 0);
        x.misses();
        Checks.give(x, Checks.word(0, 0, 0, 0, 0, 0));
        Checks.give(x, Checks.word(0, 0, 0, 0, 1, 0));
        x.edge(10);
        x.edge(60);
        x.edge(11);
        due("jumps", x.reader(6), 1);
        due("broken", x.reader(4), 1);
        due("errors", x.reader(5), 1);
        due("begins()", x.begins(), 5);
        int[] reader = {40, 0, 0, 0, 0, 0, 0, 0};
        for (int i = 0; i < reader.length; i++) {
            due("begun: reader(" + i + ")", x.reader(i), reader[i]);
        }
        for (int i = 0; i < 4; i++) {
            due("begun: reading(" + i + ")", x.reading(i), FrameClocks.NONE);
        }
        int[] wheel = {104, 1, 1, 7, 0};
        for (int i = 0; i < wheel.length; i++) {
            due("begun: wheel(" + i + ")", x.wheel(i), wheel[i]);
        }
        Checks.give(x, Checks.word(0, 0, 0, 9, 0, 0));
        due("the first one is no jump", x.reader(6), 0);
        due("begins()", x.begins(), 1);
        due("undo", x.undo(), 7);
        due("the reading is there again", x.reading(0), 9);
    }

    private static void wrongNumbers() {
        FrameClocks x = new FrameClocks();
        due("reader(-1)", x.reader(-1), FrameClocks.BAD);
        due("reader(8)", x.reader(8), FrameClocks.BAD);
        due("reading(-1)", x.reading(-1), FrameClocks.NO);
        due("reading(4)", x.reading(4), FrameClocks.NO);
        x.lays(0, 1, 0);
        x.plays(48, 20, 0, 0);
        due("reading(4)", x.reading(4), FrameClocks.NO);
        due("reading(-1)", x.reading(-1), FrameClocks.NO);
    }
}
