/** What the tests share: counts answers that are not due and words given as edges. */
final class Checks {
    private static final int[] SYNC = {0, 0, 1, 1, 1, 1, 1, 1, 1, 1, 1, 1, 1, 1, 0, 1};
    private int asked = 0;
    private int wrong = 0;

    void due(String call, int got, int want) {
        asked++;
        if (got != want) {
            wrong++;
            System.out.println(call + " answered " + got + ", due is " + want);
        }
    }

    /** Ends the program with 1 if an answer was wrong. */
    void end() {
        System.out.println(asked + " answers, " + wrong + " not as due");
        if (wrong != 0) {
            System.exit(1);
        }
    }

    /** The 48 bits of a word; the fields as they stand there, right or wrong; parity is made even. */
    static int[] word(int hours, int minutes, int seconds, int f, int drop, int user) {
        int[] bits = new int[48];
        pair(bits, 0, f, 2);
        pair(bits, 6, seconds, 3);
        pair(bits, 13, minutes, 3);
        pair(bits, 20, hours, 2);
        bits[26] = drop;
        put(bits, 28, 4, user);
        int ones = 0;
        for (int i = 0; i < 32; i++) {
            ones += bits[i];
        }
        bits[27] = ones % 2;
        System.arraycopy(SYNC, 0, bits, 32, 16);
        return bits;
    }

    private static void pair(int[] bits, int at, int value, int tens) {
        put(bits, at, 4, value % 10);
        put(bits, at + 4, tens, value / 10);
    }

    /** A number with its lowest bit first. */
    static void put(int[] bits, int at, int many, int value) {
        for (int i = 0; i < many; i++) {
            bits[at + i] = value >> i & 1;
        }
    }

    static int[] turned(int[] bits) {
        int[] other = new int[bits.length];
        for (int i = 0; i < bits.length; i++) {
            other[i] = bits[bits.length - 1 - i];
        }
        return other;
    }

    /** Gives bits as intervals with halves of 20: what the last edge() answered. */
    static int give(FrameClocks x, int[] bits) {
        int answer = 0;
        for (int bit : bits) {
            if (bit == 0) {
                answer = x.edge(40);
            } else {
                x.edge(20);
                answer = x.edge(20);
            }
        }
        return answer;
    }
}
