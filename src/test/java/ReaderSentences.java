/** Of THE READER, and promises 10 to 13. */
final class ReaderSentences extends Sentences {
    private static final String SYNC = "0011111111111101";

    ReaderSentences(Checks checks, Document document) {
        super(checks, document);
    }

    @Override
    void test() {
        readerAtFirst();
        lastBits();
        longIntervals();
        errors();
        shortIntervals();
        cells();
        highestCells();
        forward();
        backward();
        bothWays();
        evenNumber();
        bit26();
        digits();
        numbers();
        numbersLeftOut();
        letGo();
        follows();
        streak();
        locked();
        wheelStands();
        edge();
        begins();
        reader();
        reading();
        readingByItsRate();
    }

    /** BITS of a word, told as text; its BIT 27 makes the number of ones even. */
    private static String word(int hours, int minutes, int seconds, int f, int drop, int user) {
        return text(Checks.word(hours, minutes, seconds, f, drop, user));
    }

    private static String text(int[] bits) {
        StringBuilder text = new StringBuilder();
        for (int bit : bits) {
            text.append(bit);
        }
        return text.toString();
    }

    private static String turned(String bits) {
        return new StringBuilder(bits).reverse().toString();
    }

    private static String flipped(String bits, int at) {
        return bits.substring(0, at) + (bits.charAt(at) == '0' ? '1' : '0') + bits.substring(at + 1);
    }

    /** The word, forward and backward, is a READING with this NUMBER. */
    private void dueRead(String ahead, String word, int number) {
        String found = "reading(1) = " + number + "; reader(3) = 1; reader(4) = 0; reader(2) = 0; reading(3) = ";
        run(ahead + Scenes.edges(word) + found + "1");
        run(ahead + Scenes.edges(turned(word)) + found + "-1");
    }

    /** The word, forward and backward, is BROKEN: it counts as that, and lock, wheel and the READING ahead of it stay as they are. */
    private void dueBroken(String ahead, String word) {
        for (String bits : new String[] {word, turned(word)}) {
            run(ahead + Scenes.edges(bits) + "reader(4) = 1; reader(3) = 0; reader(2) = 0; reading(0) = NONE; reader(7) = 0");
            String stays = "reading(0); reading(1); reading(2); reading(3); reader(3); reader(5); reader(6); reader(7);"
                + "wheel(0); wheel(1); wheel(2); wheel(4)";
            leaves(ahead + Scenes.playedForward(3, 2), Scenes.edges(bits), stays);
            leaves(ahead + Scenes.playedForward(3, 3) + "misses() = 6;", Scenes.edges(bits), stays);
        }
    }

    /** No word is found in 48 BITS. */
    private void dueNothing(String bits) {
        run(Scenes.edges(bits) + "reader(2) = 48; reader(3) = 0; reader(4) = 0");
    }

    private void readerAtFirst() {
        says("Terms", "3 THE READER has a CELL (40 at first), perhaps a short interval that WAITS,");
        run("reader(0) = 40; reader(1) = 0; edge(30); reader(1) = 30; reader(0) = 40");
        says("Terms", "STREAK (0 at first), and the latest READING.");
        run("reader(7) = 0; reading(0) = NONE;" + Scenes.playedForward(7, 2) + "reading(0) = 8; reader(3) = 2");
    }

    private void lastBits() {
        says("Terms", "the last 48 BITS that it has told at most,");
        Run noughts = run("");
        for (int i = 1; i <= 60; i++) {
            noughts.rows("edge(40) = " + Math.min(i, 48) + "; reader(2) = " + Math.min(i, 48));
        }
        for (String more : new String[] {"0", "1", "01", "1".repeat(20)}) {
            dueReadBehind(more, word(1, 2, 3, 4, 0, 5));
            dueReadBehind(more, turned(word(1, 2, 3, 4, 0, 5)));
        }
        dueReadBehind("0".repeat(48), word(1, 2, 3, 4, 0, 5));
        dueReadBehind("10".repeat(24), turned(word(1, 2, 3, 4, 0, 5)));
    }

    private void dueReadBehind(String more, String bits) {
        run(Scenes.edges(more + bits.substring(0, 47)) + "reader(3) = 0;" + Scenes.edges(bits.substring(47))
            + "reader(3) = 1; reading(1) = 1020304; reading(2) = 5; reader(2) = 0");
    }

    private void longIntervals() {
        says("Terms", "An interval d comes: if 4 d is more than 3 CELL: it is a BIT 0;");
        // CELL 40, 41, 42, 43, 44: the longest that WAITS
        int[][] cells = {{40, 40, 30}, {44, 41, 30}, {48, 42, 31}, {52, 43, 32}, {56, 44, 33}};
        for (int[] cell : cells) {
            String ahead = "edge(" + cell[0] + ") = 1; reader(0) = " + cell[1] + ";";
            run(ahead + "edge(" + cell[2] + ") = 1; reader(1) = " + cell[2] + "; reader(0) = " + cell[1]);
            run(ahead + "edge(" + (cell[2] + 1) + ") = 2; reader(1) = 0");
        }
    }

    private void errors() {
        says("Terms", "if one WAITS, that goes first, and is an ERROR; then CELL is (3 CELL and d) by 4.");
        run("edge(31) = 1; reader(5) = 0; reader(0) = 37");
        run("edge(10) = 0; edge(31) = 1; reader(5) = 1; reader(1) = 0; reader(0) = 37; edge(10) = 1; reader(1) = 10;"
            + "edge(9999) = 2; reader(5) = 2; reader(0) = 2527");
        run("edge(30) = 0; edge(30) = 1; reader(5) = 0");
    }

    private void shortIntervals() {
        says("Terms", "Else, if none WAITS, it WAITS; else both are a BIT 1, none WAITS, and CELL is (3 CELL and both) by 4.");
        run("edge(30) = 0; reader(1) = 30; reader(0) = 40; edge(30) = 1; reader(1) = 0; reader(0) = 45");
        run("edge(1) = 0; reader(1) = 1; edge(30) = 1; reader(1) = 0; reader(0) = 37");
        run("edge(30) = 0; edge(1) = 1; reader(1) = 0; reader(0) = 37; edge(27) = 1; reader(1) = 27; edge(1) = 2; reader(0) = 34");
        // a BIT 1 for each two, and a BIT 0 for each long one
        dueRead("", word(0, 0, 0, 1, 0, 8), 1);
        dueRead("", word(0, 0, 0, 0, 0, 15), 0);
    }

    private void cells() {
        says("Terms", "(All by 4 are cut to a whole number; CELL is never less than 1.)");
        run("edge(32); reader(0) = 38"); // 152
        run("edge(33); reader(0) = 38"); // 153
        run("edge(34); reader(0) = 38"); // 154
        run("edge(35); reader(0) = 38"); // 155
        run("edge(36); reader(0) = 39"); // 156
        run("edge(30); edge(29); reader(0) = 44"); // 179
        run("edge(30); edge(30); reader(0) = 45"); // 180
        // by the rules it does not even come to 1: (3 * 2 and 2) by 4 is 2
        run("edge(1);".repeat(60) + "reader(0) = 2; edge(1); reader(1) = 1; edge(1); reader(0) = 2; edge(2); reader(0) = 2;"
            + "reader(1) = 0; reader(5) = 0; edge(1); edge(2); reader(5) = 1; reader(0) = 2; edge(3); reader(0) = 2; edge(6);"
            + "reader(0) = 3; edge(2); reader(1) = 2; edge(1); reader(0) = 3; edge(1); edge(1); reader(0) = 2");
    }

    /** Above 13331 even the longest interval is a short one. */
    private void highestCells() {
        run("edge(9999);".repeat(60) + "reader(0) = 9996; reader(2) = 48; reader(1) = 0; edge(7497); reader(1) = 7497;"
            + "edge(7497); reader(0) = 11245; edge(8433); reader(1) = 8433; edge(8434); reader(1) = 0; reader(5) = 1");
        String high = "edge(9999);".repeat(60) + "edge(7497);edge(7497);" + "edge(8433);edge(8433);" + "edge(9487);edge(9487);";
        run(high + "reader(0) = 14231; edge(9999); reader(1) = 9999; edge(9999); reader(1) = 0; reader(0) = 15672;"
            + "edge(9999);".repeat(60) + "reader(0) = 19995; reader(5) = 0; edge(9999); reader(1) = 9999");
        String near = "edge(9999);".repeat(60) + "edge(7497);edge(7497);" + "edge(8433);edge(8433); reader(0) = 12650;";
        run(near + "edge(7687); edge(7687); reader(0) = 13331; edge(9999); reader(1) = 0; reader(0) = 12498");
        run(near + "edge(7689); edge(7689); reader(0) = 13332; edge(9999); reader(1) = 9999; reader(0) = 13332");
    }

    private void forward() {
        says("Terms", "Behind each BIT that is told, if there are 48: FORWARD, if the last 16 of these are SYNC in its order: "
            + "then the first 32 are BITS 0 to 31.");
        String word = word(19, 48, 37, 21, 0, 10);
        run(Scenes.edges(word) + "reading(1) = 19483721; reading(2) = 10; reading(3) = 1; reader(2) = 0");
        // 47 of them are no word, and not with one more behind them, either
        run(Scenes.edges(word.substring(1)) + "reader(2) = 47; reader(3) = 0; reader(4) = 0; edge(40) = 48; reader(3) = 0; reader(4) = 0");
        for (int i = 32; i < 48; i++) {
            dueNothing(flipped(word(0, 0, 0, 0, 0, 0), i));
        }
    }

    private void backward() {
        says("Terms", "Else BACKWARD, if the first 16 are SYNC in the other order: then the last 32 are BITS 31 to 0. (Else nothing.)");
        String word = turned(word(19, 48, 37, 21, 0, 10));
        run(Scenes.edges(word) + "reading(1) = 19483721; reading(2) = 10; reading(3) = -1; reader(2) = 0");
        run(Scenes.edges(word.substring(0, 47)) + "reader(2) = 47; reader(3) = 0; reader(4) = 0");
        run(Scenes.edges(word.substring(1)) + "reader(2) = 47; edge(40) = 48; reader(3) = 0; reader(4) = 0");
        for (int i = 0; i < 16; i++) {
            dueNothing(flipped(turned(word(0, 0, 0, 0, 0, 0)), i));
        }
        dueNothing("0".repeat(48));
        dueNothing("1".repeat(48));
        // SYNC in its order at the beginning, in the other order at the end
        dueNothing(SYNC + "0".repeat(32));
        dueNothing("0".repeat(32) + turned(SYNC));
    }

    /** BITS 0 to 3 are 13 then, the one way and the other: it can be told only that it is found once. */
    private void bothWays() {
        run(Scenes.edges(turned(SYNC) + "0".repeat(16) + SYNC) + "reader(4) = 1; reader(3) = 0; reader(2) = 0");
        run(Scenes.edges(turned(SYNC) + "1".repeat(16) + SYNC) + "reader(4) = 1; reader(3) = 0; reader(2) = 0");
    }

    private void evenNumber() {
        says("Terms", "These BITS are a READING, if an even number of them is 1,");
        String word = word(10, 10, 10, 10, 0, 0);
        dueRead("", word, 10101010);
        for (int i = 0; i < 32; i++) {
            dueBroken("", flipped(word, i));
        }
        // two wrong ones are not seen
        dueRead("", flipped(flipped(word, 28), 31), 10101010);
        dueRead("", flipped(flipped(word, 0), 27), 10101011);
    }

    private void bit26() {
        says("Terms", "BIT 26 is as THE RATE has it,");
        for (int r = 0; r < 3; r++) {
            dueRead("rates(" + r + ");", word(1, 2, 3, 4, 0, 0), 1020304);
            dueBroken("rates(" + r + ");", word(1, 2, 3, 4, 1, 0));
        }
        dueRead("rates(3);", word(1, 2, 3, 4, 1, 0), 1020304);
        dueBroken("rates(3);", word(1, 2, 3, 4, 0, 0));
    }

    /** A digit of 10 is BROKEN though the NUMBER with the tens behind it would be one that a FRAME has. */
    private void digits() {
        says("Terms", "no part of them that is modulo 10 is above 9,");
        int[] from = {20, 13, 6, 0};
        int[] times = {1000000, 10000, 100, 1};
        for (int part = 0; part < 4; part++) {
            for (int digit = 0; digit < 16; digit++) {
                int[] bits = Checks.word(0, 0, 0, 0, 0, 0);
                Checks.put(bits, from[part], 4, digit);
                bits[27] = Integer.bitCount(digit) % 2;
                if (digit <= 9) {
                    dueRead("", text(bits), digit * times[part]);
                } else {
                    dueBroken("", text(bits));
                }
            }
        }
    }

    private void numbers() {
        says("Terms", "and their NUMBER is one that some FRAME of THE RATE has; else they are BROKEN.");
        int[] aSecond = {24, 25, 30, 30};
        for (int r = 0; r < 4; r++) {
            String rate = "rates(" + r + ");";
            int drop = r == 3 ? 1 : 0;
            int f = aSecond[r];
            dueRead(rate, word(0, 0, 0, 0, drop, 15), 0);
            dueRead(rate, word(0, 0, 0, f - 1, drop, 0), f - 1);
            dueRead(rate, word(0, 0, 59, 0, drop, 0), 5900);
            dueRead(rate, word(0, 59, 59, 0, drop, 0), 595900);
            dueRead(rate, word(23, 0, 0, 0, drop, 0), 23000000);
            dueRead(rate, word(23, 59, 59, f - 1, drop, 0), 23595900 + f - 1);
            int[][] broken = {{24, 0, 0, 0}, {39, 0, 0, 0}, {0, 60, 0, 0}, {0, 79, 0, 0}, {0, 0, 60, 0}, {0, 0, 79, 0},
                {0, 0, 0, f}, {0, 0, 0, 39}, {24, 60, 60, f}};
            for (int[] one : broken) {
                dueBroken(rate, word(one[0], one[1], one[2], one[3], drop, 0));
            }
        }
    }

    private void numbersLeftOut() {
        for (int minute : new int[] {1, 9, 11, 59}) {
            dueBroken("rates(3);", word(0, minute, 0, 0, 1, 0));
            dueBroken("rates(3);", word(0, minute, 0, 1, 1, 0));
            dueRead("rates(3);", word(0, minute, 0, 2, 1, 0), minute * 10000 + 2);
            dueRead("rates(3);", word(0, minute, 1, 0, 1, 0), minute * 10000 + 100);
            dueRead("rates(2);", word(0, minute, 0, 0, 0, 0), minute * 10000);
        }
        for (int minute : new int[] {0, 10, 50}) {
            dueRead("rates(3);", word(0, minute, 0, 0, 1, 0), minute * 10000);
            dueRead("rates(3);", word(0, minute, 0, 1, 1, 0), minute * 10000 + 1);
        }
    }

    private void letGo() {
        says("Terms", "By a READING and by a BROKEN one all 48 BITS are let go (what WAITS stays).");
        String good = word(0, 0, 0, 5, 0, 0);
        String bad = word(0, 0, 0, 5, 1, 0);
        for (String first : new String[] {good, bad, turned(good), turned(bad)}) {
            String ahead = Scenes.edges(first) + "reader(2) = 0; reader(1) = 0;";
            run(ahead + "edge(20) = 0; edge(20) = 1; edge(40) = 2");
            // SYNC again is no word with what was there: 48 new BITS must come
            run(ahead + Scenes.edges("0".repeat(31) + SYNC) + "reader(2) = 47");
            run(ahead + Scenes.edges(good) + "reader(2) = 0; reading(0) = 5");
        }
        // one that waits as the word ends is an ERROR, or a half of its last BIT 1: none can stay
        run(Scenes.edges(good.substring(0, 47)) + "edge(7) = 47; reader(1) = 7; edge(20) = 0; reader(1) = 0; reading(0) = 5");
        run(Scenes.edges(turned(good).substring(0, 47)) + "reader(3) = 0; edge(20); edge(20) = 0; reader(1) = 0; reader(3) = 1");
        String noughtEnds = turned(word(0, 0, 0, 2, 0, 1));
        run(Scenes.edges(noughtEnds.substring(0, 47)) + "edge(9) = 47; edge(40) = 0; reader(1) = 0; reader(5) = 1; reading(0) = 2");
    }

    /** FRAME 10 is read first, the one way or the other; then another, so or so. */
    private void follows() {
        says("Terms", "A READING of FRAME x: it FOLLOWS, if there is a READING ahead of it, and x is that one's FRAME and 1 "
            + "(where this one is FORWARD), less 1 (BACKWARD).");
        for (int back = 0; back < 2; back++) {
            for (int next = 7; next <= 13; next++) {
                boolean follows = next == (back == 0 ? 11 : 9);
                String end = (follows ? "reader(7) = 2; reader(6) = 0" : "reader(7) = 1; reader(6) = 1") + "; reading(0) = " + next;
                String laid = "lays(10, 1, 0); lays(" + next + ", 1, 0);";
                String second = back == 0 ? "winds(48); plays(48, 20, 0, 0) = 48;" : "winds(96); plays(48, 20, 0, 1) = 48;";
                run(laid + "plays(48, 20, 0, 0);" + second + end);
                run(laid + "winds(48); plays(48, 20, 0, 1); reading(3) = -1;" + second + end);
            }
        }
        // a BROKEN one between them does not count
        run(Scenes.edges(word(0, 0, 0, 5, 0, 0) + word(0, 0, 0, 5, 1, 0) + word(0, 0, 0, 6, 0, 0))
            + "reader(7) = 2; reader(6) = 0; reader(4) = 1");
        // none is ahead of the first one, nor of the first behind begins()
        run(Scenes.playedForward(0, 1) + "reader(7) = 1; reader(6) = 0");
        run(Scenes.playedForward(1, 1) + "reader(7) = 1; reader(6) = 0; begins();" + Scenes.playedForward(2, 1)
            + "reader(7) = 1; reader(6) = 0");
    }

    private void streak() {
        says("Terms", "STREAK becomes 1 more if it FOLLOWS, else 1; else, if there is a READING ahead of it, it is a JUMP, too.");
        String word = "plays(48, 20, 0, 0);";
        run("lays(5, 4, 0); lays(8, 2, 0); lays(8, 2, 0);" + word + "reader(7) = 1; reader(6) = 0;" + word + "reader(7) = 2;"
            + word + "reader(7) = 3;" + word + "reader(7) = 4; reader(6) = 0;" + word + "reader(7) = 1; reader(6) = 1;" + word
            + "reader(7) = 2; reader(6) = 1;" + word + "reader(7) = 1; reader(6) = 2;" + word + "reader(7) = 2; reader(6) = 2");
        // STREAK 0 behind a lost lock: the next one is 1 whether it FOLLOWS or not
        run(Scenes.playedForward(5, 2) + "misses(); reader(7) = 0;" + Scenes.playedForward(7, 1) + "reader(7) = 1; reader(6) = 0");
        run(Scenes.playedForward(5, 2) + "misses(); reader(7) = 0;" + Scenes.playedForward(8, 1) + "reader(7) = 1; reader(6) = 1");
        run(Scenes.playedForward(0, 40).repeat(6) + "reader(7) = 40; reader(6) = 5; reader(3) = 240");
    }

    private void locked() {
        says("Terms", "LOCKED: STREAK is 3 or more.");
        String word = "plays(48, 20, 0, 0);";
        run("lays(5, 5, 0); wheel(4) = 0;" + word + "wheel(4) = 0;" + word + "reader(7) = 2; wheel(4) = 0;" + word
            + "reader(7) = 3; wheel(4) = 1;" + word + "reader(7) = 4; wheel(4) = 1; lays(0, 1, 0);" + word + word
            + "reader(7) = 1; wheel(4) = 0");
    }

    private void wheelStands() {
        says("Terms", "If it is LOCKED then, THE WHEEL stands at x, goes on as this READING goes (FORWARD 1, BACKWARD -1), MISSED is 0.");
        String word = "plays(48, 20, 0, 0);";
        run("lays(5, 5, 0);" + word + word + "wheel(0) = 0;" + word + "wheel(0) = 7; wheel(1) = 1;" + word + "wheel(0) = 8;"
            + "misses() = 9; misses() = 10; wheel(2) = 2;" + word + "wheel(0) = 9; wheel(2) = 0; wheel(1) = 1");
        String back = "plays(48, 20, 0, 1);";
        run("lays(5, 5, 0); winds(240);" + back + back + "wheel(0) = 0; wheel(1) = 1;" + back + "wheel(0) = 7; wheel(1) = -1;"
            + "misses() = 6; misses() = 5; wheel(2) = 2;" + back + "wheel(0) = 6; wheel(2) = 0; wheel(1) = -1");
        // it is not LOCKED by a JUMP: all stays but the READING
        run(Scenes.playedForward(5, 3) + "misses() = 8;" + Scenes.playedForward(100, 2) + "wheel(0) = 8; wheel(1) = 1; wheel(2) = 1;"
            + Scenes.playedForward(102, 1) + "wheel(0) = 102; wheel(2) = 0");
        // a turn that FOLLOWS: the third goes backward
        run("lays(5, 2, 0); plays(96, 20, 0, 0); lays(5, 1, 0); winds(144);" + back + "reader(7) = 3; wheel(0) = 5; wheel(1) = -1");
    }

    private void edge() {
        says("Promise 10", "An interval (1 .. 9999) is given to THE READER: BITS that it has now (0 .. 48; behind a READING or a BROKEN one 0). BAD.");
        run("edge(1) = 0; reader(1) = 1; edge(9999) = 1; reader(0) = 2529; reader(5) = 1");
        String good = word(0, 0, 0, 5, 0, 0);
        String bad = word(0, 0, 0, 5, 1, 0);
        run(Scenes.edges(good.substring(0, 47)) + "edge(20) = 47; edge(20) = 0; reader(3) = 1");
        run(Scenes.edges(bad.substring(0, 47)) + "edge(20) = 47; edge(20) = 0; reader(4) = 1");
        run(Scenes.edges("0".repeat(47)) + "edge(40) = 48; edge(20) = 48; edge(20) = 48; edge(40) = 48");
        String refused = "edge(0) = BAD; edge(-1) = BAD; edge(10000) = BAD; edge(MIN) = BAD; edge(MAX) = BAD";
        changesNothing(Scenes.NEW, refused);
        changesNothing(Scenes.BUSY, refused);
        changesNothing(Scenes.FULL, refused);
        canBeUndone(Scenes.NEW, "edge(1) = 0; edge(30) = 0; edge(31) = 1; edge(9999) = 1");
        canBeUndone(Scenes.BUSY, "edge(1) = 42; edge(9999) = 42");
        canBeUndone(Scenes.edges(good.substring(0, 3)), "edge(20) = 3; edge(40) = 4");
        leaves(Scenes.BUSY, "edge(9999);", "count(0); count(2); count(3); count(4); wheel(0); wheel(1); wheel(2); wheel(3)");
    }

    private void begins() {
        says("Promise 11", "THE READER is as at first (CELL, what WAITS, BITS, STREAK, no READING; counts are 0;");
        String first = "reader(0) = 40; reader(1) = 0; reader(2) = 0; reader(3) = 0; reader(4) = 0; reader(5) = 0; reader(6) = 0;"
            + "reader(7) = 0; reading(0) = NONE; reading(1) = NONE; reading(2) = NONE; reading(3) = NONE; wheel(4) = 0;";
        run(Scenes.BUSY + "begins() = 6;" + first + "begins() = 0;" + first);
        // BITS are gone: 47 of a word ahead of it and the last one behind it are none
        String word = word(0, 0, 0, 5, 0, 0);
        run(Scenes.edges(word.substring(0, 47)) + "begins() = 0; edge(20) = 0; edge(20) = 1; reader(3) = 0");
        run("edge(20); begins(); edge(20) = 0; reader(1) = 20");
        says("Promise 11", "THE WHEEL, how it goes on, MISSED, HOLD stay):");
        leaves(Scenes.BUSY, "begins();", "wheel(0); wheel(1); wheel(2); wheel(3); count(0); count(1); count(2); count(3); count(4);"
            + "count(5); unseen(); chaser(0, 0); chaser(0, 1); chaser(0, 2); chaser(0, 3); chaser(2, 0); bit(0)");
        String backward = Scenes.playedBackward(5, 3) + "holds(7); misses() = 4;";
        run(backward + "begins() = 3; wheel(0) = 4; wheel(1) = -1; wheel(2) = 1; wheel(3) = 7; misses() = 4; wheel(2) = 1");
        says("Promise 11", "how many READINGS there were.");
        run("begins() = 0;" + Scenes.playedForward(5, 3) + "begins() = 3; begins() = 0;" + Scenes.playedForward(5, 1) + "begins() = 1");
        canBeUndone(Scenes.NEW, "begins() = 0");
        canBeUndone(Scenes.BUSY, "begins() = 6");
    }

    private void reader() {
        says("Promise 12", "Of THE READER: 0 CELL, 1 the interval that WAITS (0: none), 2 BITS, 3 READINGS, 4 BROKEN ones, 5 ERRORS, 6 JUMPS, "
            + "7 STREAK (these as counted since begins(), or ever). BAD.");
        changesNothing(Scenes.BUSY, "reader(MIN) = BAD; reader(-1) = BAD; reader(0) = 44; reader(1) = 20; reader(2) = 41; reader(3) = 6;"
            + "reader(4) = 1; reader(5) = 1; reader(6) = 1; reader(7) = 5; reader(8) = BAD; reader(MAX) = BAD");
        changesNothing(Scenes.NEW, "reader(-1) = BAD; reader(0) = 40; reader(7) = 0; reader(8) = BAD");
    }

    private void reading() {
        says("Promise 13", "The latest READING: 0 its FRAME, 1 its NUMBER, 2 its USER, 3 whether it was FORWARD (1) or BACKWARD (-1);");
        changesNothing(Scenes.BUSY, "reading(0) = 1; reading(1) = 1; reading(2) = 5; reading(3) = 1");
        run("lays(1500, 1, 15); plays(48, 20, 0, 0); plays(48, 20, 0, 1); reading(0) = 1500; reading(1) = 10000; reading(2) = 15;"
            + "reading(3) = -1");
        says("Promise 13", "NONE: there is none since begins(), or ever.");
        changesNothing(Scenes.NEW, "reading(0) = NONE; reading(1) = NONE; reading(2) = NONE; reading(3) = NONE");
        changesNothing(Scenes.BUSY + "begins();", "reading(0) = NONE; reading(3) = NONE");
        // a BROKEN one is none
        run(Scenes.edges(word(0, 0, 0, 5, 1, 0)) + "reader(4) = 1; reading(0) = NONE; reading(3) = NONE");
        says("Promise 13", "NO: BAD.");
        String refused = "reading(MIN) = NO; reading(-1) = NO; reading(4) = NO; reading(MAX) = NO";
        changesNothing(Scenes.BUSY, refused);
        changesNothing(Scenes.NEW, refused);
    }

    private void readingByItsRate() {
        says("Promise 13", "(A FRAME, its NUMBER: by THE RATE as it was when it was read.)");
        run("rates(3);" + Scenes.playedForward(1800, 1) + "rates(0); reading(0) = 1800; reading(1) = 10002; rates(1);"
            + "reading(0) = 1800; reading(1) = 10002; reading(2) = 0; reading(3) = 1");
    }
}
