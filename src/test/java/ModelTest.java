import java.util.Random;

/** Random runs (always the same ones) of calls on the class and on the slow model. */
public final class ModelTest {
    private static final int RUNS = 3000;
    /** No object is promised to answer more calls. */
    private static final int CALLS = 512;
    private static final int CALLS_OF_ASK_ALL = 56;
    private static final int MOST_CALLS_OF_A_WORD = 96;
    private static final Checks CHECKS = new Checks();
    private static final int[] EDGES = {Integer.MIN_VALUE, FrameClocks.NO, -100000, -10, -9, -8, -2, -1, 16, 41, 100,
        201, 1001, 4801, 10000, 2073600, 2589408, 23596000, Integer.MAX_VALUE};

    private final Random random;
    private final FrameClocks x = new FrameClocks();
    private final Model m = new Model();
    private final int run;
    private int calls = 0;
    private int wrong = 0;

    private ModelTest(int run) {
        this.run = run;
        this.random = new Random(run);
    }

    public static void main(String[] args) {
        int wrong = 0;
        int[] met = new int[5];
        for (int run = 0; run < RUNS && wrong == 0; run++) {
            ModelTest test = new ModelTest(run);
            test.go(met);
            wrong += test.wrong;
        }
        // the runs are worth something only if they come to these
        CHECKS.due("readings are met", met[0] > 1000 ? 1 : 0, 1);
        CHECKS.due("broken ones are met", met[1] > 100 ? 1 : 0, 1);
        CHECKS.due("jumps are met", met[2] > 100 ? 1 : 0, 1);
        CHECKS.due("lock is met", met[3] > 100 ? 1 : 0, 1);
        CHECKS.due("backward is met", met[4] > 100 ? 1 : 0, 1);
        CHECKS.end();
    }

    private void go(int[] met) {
        while (calls < CALLS - CALLS_OF_ASK_ALL - MOST_CALLS_OF_A_WORD && wrong == 0) {
            call();
            if (random.nextInt(60) == 0 && calls < CALLS / 2) {
                askAll();
            }
        }
        askAll();
        CHECKS.due("run " + run + " ends in time", calls <= CALLS ? 1 : 0, 1);
        met[0] += m.reader(3);
        met[1] += m.reader(4);
        met[2] += m.reader(6);
        met[3] += m.wheel(4);
        met[4] += m.reading(3) == -1 ? 1 : 0;
    }

    private void same(String call, int got, int want) {
        calls++;
        CHECKS.due("run " + run + ", call " + calls + ": " + call, got, want);
        wrong += got == want ? 0 : 1;
    }

    private int upTo(int most) {
        return random.nextInt(most + 1);
    }

    /** Nearly always a number from low to high, seldom one that is not. */
    private int pick(int low, int high) {
        switch (random.nextInt(40)) {
            case 0: return EDGES[random.nextInt(EDGES.length)];
            case 1: return random.nextBoolean() ? low - 1 : high + 1;
            case 2: return low;
            case 3: return high;
            default: return low + upTo(high - low);
        }
    }

    private int pickFrame() {
        int day = m.count(1);
        switch (random.nextInt(6)) {
            case 0: return pick(0, day - 1);
            case 1: return pick(day - 5, day - 1);
            case 2: return pick(1790, 1810);
            case 3: return pick(17970, 17990);
            default: return pick(0, 60);
        }
    }

    private int pickNumber() {
        if (random.nextInt(5) == 0) {
            return pick(0, 23595999);
        }
        int seconds = random.nextBoolean() ? 0 : upTo(62);
        int minutes = random.nextInt(3) == 0 ? upTo(62) : upTo(11);
        return upTo(23) * random.nextInt(2) * 1000000 + minutes * 10000 + seconds * 100 + upTo(31);
    }

    private void call() {
        int which = random.nextInt(100);
        if (which < 30) {
            tape(which);
        } else if (which < 50) {
            reader(which);
        } else if (which < 68) {
            wheelAndChasers(which);
        } else if (which < 80) {
            numbers(which);
        } else {
            undoAndImages(which);
        }
    }

    private void tape(int which) {
        if (which < 7) {
            int frame = pickFrame();
            int length = random.nextInt(4) == 0 ? pick(1, 40) : pick(1, 5);
            int user = pick(0, 15);
            same("lays(" + frame + ", " + length + ", " + user + ")", x.lays(frame, length, user), m.lays(frame, length, user));
        } else if (which < 12) {
            int h = random.nextInt(3) == 0 ? pick(0, m.count(3)) : 48 * upTo(m.count(3) / 48);
            same("winds(" + h + ")", x.winds(h), m.winds(h));
        } else {
            int n = random.nextInt(3) == 0 ? pick(1, 4800) : random.nextInt(3) == 0 ? pick(1, 100) : 48 * (1 + upTo(5));
            int u = random.nextInt(3) == 0 ? pick(1, 200) : pick(16, 30);
            int w = pick(0, 9);
            int back = random.nextInt(30) == 0 ? pick(0, 1) : upTo(1);
            same("plays(" + n + ", " + u + ", " + w + ", " + back + ")", x.plays(n, u, w, back), m.plays(n, u, w, back));
        }
    }

    private void reader(int which) {
        if (which < 42) {
            int d = random.nextInt(3) == 0 ? pick(1, 9999) : pick(1, 2 * m.reader(0));
            same("edge(" + d + ")", x.edge(d), m.edge(d));
        } else if (which < 44) {
            same("begins()", x.begins(), m.begins());
        } else if (which < 46) {
            giveWord();
        } else if (which < 48) {
            int what = pick(0, 7);
            same("reader(" + what + ")", x.reader(what), m.reader(what));
        } else {
            int what = pick(0, 3);
            same("reading(" + what + ")", x.reading(what), m.reading(what));
        }
    }

    /** A word near the latest one, now and then with a wrong bit, as edges, the one way or the other. */
    private void giveWord() {
        int near = m.reading(0) < 0 ? pickFrame() : m.reading(0) + upTo(4) - 2;
        int number = m.number(Math.floorMod(near, m.count(1)));
        int[] word = Checks.word(number / 1000000, number / 10000 % 100, number / 100 % 100, number % 100,
            m.count(0) == 3 ? 1 : 0, upTo(15));
        for (int i = 0; i < 2; i++) {
            if (random.nextInt(3) == 0) {
                word[upTo(31)] ^= 1;
            }
        }
        int[] bits = random.nextBoolean() ? word : Checks.turned(word);
        int half = Math.max(1, (m.reader(0) + upTo(4) - 2) / 2);
        for (int bit : bits) {
            for (int i = 0; i <= bit; i++) {
                int d = bit == 0 ? 2 * half : half;
                same("edge(" + d + ")", x.edge(d), m.edge(d));
            }
        }
    }

    private void wheelAndChasers(int which) {
        int c = pick(0, 2);
        if (which < 54) {
            same("misses()", x.misses(), m.misses());
        } else if (which < 56) {
            int n = random.nextBoolean() ? pick(0, 99) : pick(0, 6);
            same("holds(" + n + ")", x.holds(n), m.holds(n));
        } else if (which < 58) {
            int what = pick(0, 4);
            same("wheel(" + what + ")", x.wheel(what), m.wheel(what));
        } else if (which < 61) {
            int n = random.nextBoolean() ? pick(-99999, 99999) : pick(-50, 50);
            same("offsets(" + c + ", " + n + ")", x.offsets(c, n), m.offsets(c, n));
        } else if (which < 64) {
            int n = random.nextBoolean() ? pick(1, 1000) : pick(1, 9);
            same("chases(" + c + ", " + n + ")", x.chases(c, n), m.chases(c, n));
        } else if (which < 66) {
            int what = pick(0, 3);
            same("chaser(" + c + ", " + what + ")", x.chaser(c, what), m.chaser(c, what));
        } else {
            same("there(" + c + ")", x.there(c), m.there(c));
        }
    }

    private void numbers(int which) {
        if (which < 71) {
            int frame = pickFrame();
            same("number(" + frame + ")", x.number(frame), m.number(frame));
        } else if (which < 74) {
            int number = pickNumber();
            same("frame(" + number + ")", x.frame(number), m.frame(number));
        } else if (which < 77) {
            int from = pickFrame();
            int to = pickFrame();
            same("dropped(" + from + ", " + to + ")", x.dropped(from, to), m.dropped(from, to));
        } else {
            int h = pick(0, m.count(3));
            same("bit(" + h + ")", x.bit(h), m.bit(h));
        }
    }

    private void undoAndImages(int which) {
        if (which < 83) {
            int r = pick(0, 3);
            same("rates(" + r + ")", x.rates(r), m.rates(r));
        } else if (which < 87) {
            same("undo()", x.undo(), m.undo());
        } else if (which < 90) {
            int number = pickNumber();
            int frame = random.nextBoolean() ? m.frame(number) : pick(0, 4000);
            same("sees(" + number + ", " + frame + ")", x.sees(number, frame), m.sees(number, frame));
        } else if (which < 91) {
            same("forget()", x.forget(), m.forget());
        } else if (which < 93) {
            same("unseen()", x.unseen(), m.unseen());
        } else if (which < 95) {
            int image = pick(0, 1);
            same("keep(" + image + ")", x.keep(image), m.keep(image));
        } else if (which < 97) {
            int image = pick(0, 1);
            same("back(" + image + ")", x.back(image), m.back(image));
        } else {
            int what = pick(0, 6);
            same("count(" + what + ")", x.count(what), m.count(what));
        }
    }

    private void askAll() {
        for (int i = 0; i < 8; i++) {
            same("count(" + i + ")", x.count(i), m.count(i));
            same("reader(" + i + ")", x.reader(i), m.reader(i));
            same("reading(" + i + ")", x.reading(i), m.reading(i));
            same("wheel(" + i + ")", x.wheel(i), m.wheel(i));
            for (int c = 0; c < 3; c++) {
                same("chaser(" + c + ", " + i + ")", x.chaser(c, i), m.chaser(c, i));
            }
        }
    }
}
