/** Runs of calls that bring an object to where a test begins. */
final class Scenes {
    static final String NEW = "";

    /**
     * RATE 2; no part of it is as at first; image 0 is kept, image 1 is not; two are SEEN; four calls can be UNDONE.
     * THE TAPE: FRAME 77, and 2591997 to 1; THE HEAD stands ahead of BIT 280 of 288.
     */
    static final String BUSY = "rates(2); lays(77, 1, 8); edge(40); winds(1); plays(47, 20, 0, 0) = 47;"
        + "reader(4) = 1; winds(0); plays(48, 20, 0, 0) = 48; reader(3) = 1;"
        + "lays(2591997, 5, 5); plays(240, 21, 3, 0) = 240; reader(6) = 1; wheel(0) = 1;"
        + "edge(10); edge(40); reader(5) = 1; holds(9); misses() = 2;"
        + "offsets(0, 5); chases(0, 2); offsets(1, -300); chases(1, 9); offsets(2, 99999); chases(2, 30);"
        + "winds(240); sees(100, 30); sees(10002, 1802); keep(0); back(0) = 2;"
        + "holds(8) = 9; misses() = 3; plays(40, 20, 1, 0) = 40; edge(20) = 41;";

    /** RATE 3; six SEGMENTS (13 words), six SEEN, eight can be UNDONE, both images are kept; THE HEAD at the end. */
    static final String FULL = "rates(3); lays(1798, 2, 1); lays(2589406, 4, 2); lays(0, 1, 3); lays(17981, 2, 4);"
        + "lays(5, 3, 5); lays(9, 1, 15) = 6; keep(0); plays(96, 20, 0, 0); keep(1) = 6;"
        + "sees(100, 30); sees(29, 29); sees(30, NONE); sees(0, 0); sees(10001, NONE); sees(23595999, NONE) = 6;"
        + "holds(10); holds(11); holds(12); holds(13); holds(14); holds(15); winds(0) = 96; winds(624) = 0; count(6) = 8;";

    private Scenes() {
    }

    /** BITS, told as text, as rows of edge() with a half of 20. */
    static String edges(String bits) {
        return bits.replace("0", "edge(40);").replace("1", "edge(20);edge(20);");
    }

    /** A SEGMENT of FRAMES that is laid behind these BITS and played at once, forward. */
    static String playedForward(int frame, int length) {
        return "lays(" + frame + ", " + length + ", 0); plays(" + 48 * length + ", 20, 0, 0);";
    }

    /** On a tape without SEGMENTS: one is laid and played from its end. */
    static String playedBackward(int frame, int length) {
        return "lays(" + frame + ", " + length + ", 0); winds(" + 48 * length + ");"
            + "plays(" + 48 * length + ", 20, 0, 1);";
    }
}
