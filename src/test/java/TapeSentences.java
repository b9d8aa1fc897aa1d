/** Of THE WORD and THE TAPE, and promises 6 to 9. */
final class TapeSentences extends Sentences {
    private static final String SYNC = "0011111111111101";
    /** Six SEGMENTS of forty: 11520 BITS, the most that THE TAPE can have. */
    private static final String LONGEST = "lays(0, 40, 0);".repeat(6);

    TapeSentences(Checks checks, Document document) {
        super(checks, document);
    }

    @Override
    void test() {
        digits();
        dropBit();
        evenBit();
        userAndSync();
        segments();
        wordsOneBehindTheOther();
        wordsByTheRate();
        head();
        halfAndShake();
        order();
        halves();
        shakes();
        lays();
        laysRefused();
        winds();
        windsRefused();
        bit();
        playsForward();
        playsBackward();
        playsMost();
        playsRefused();
    }

    private void dueWord(String rows, int place, String word) {
        Run run = run(rows);
        StringBuilder bits = new StringBuilder();
        for (int h = 48 * place; h < 48 * place + 48; h++) {
            bits.append(run.row("bit(" + h + ")"));
        }
        String want = word.replace(" ", "");
        due(rows + " word " + place + " is " + bits + ", and not " + want, bits.toString().equals(want) ? 1 : 0, 1);
    }

    private void digits() {
        says("Terms", "2 THE WORD of a FRAME: 48 BITS, 0 to 47, numbers with their lowest bit first: 0 to 3 f modulo 10, "
            + "4 and 5 f by 10; 6 to 9, 10 to 12 likewise of seconds; 13 to 16, 17 to 19 of minutes; 20 to 23, 24 and 25 of hours;");
        dueWord("lays(0, 1, 0);", 0, "0000 00 0000 000 0000 000 0000 00 0 0 0000" + SYNC);
        dueWord("lays(2159999, 1, 0);", 0, "0010 01 1001 101 1001 101 1100 01 0 1 0000" + SYNC);
        dueWord("rates(2); lays(2591999, 1, 0);", 0, "1001 01 1001 101 1001 101 1100 01 0 0 0000" + SYNC);
        dueWord("rates(0); lays(2073599, 1, 0);", 0, "1100 01 1001 101 1001 101 1100 01 0 0 0000" + SYNC);
        // each part alone, at 9 and at 10
        dueWord("lays(9, 1, 0);", 0, "1001 00 0000 000 0000 000 0000 00 0 0 0000" + SYNC);
        dueWord("lays(10, 1, 0);", 0, "0000 10 0000 000 0000 000 0000 00 0 1 0000" + SYNC);
        dueWord("lays(225, 1, 0);", 0, "0000 00 1001 000 0000 000 0000 00 0 0 0000" + SYNC);
        dueWord("lays(250, 1, 0);", 0, "0000 00 0000 100 0000 000 0000 00 0 1 0000" + SYNC);
        dueWord("lays(13500, 1, 0);", 0, "0000 00 0000 000 1001 000 0000 00 0 0 0000" + SYNC);
        dueWord("lays(15000, 1, 0);", 0, "0000 00 0000 000 0000 100 0000 00 0 1 0000" + SYNC);
        dueWord("lays(810000, 1, 0);", 0, "0000 00 0000 000 0000 000 1001 00 0 0 0000" + SYNC);
        dueWord("lays(900000, 1, 0);", 0, "0000 00 0000 000 0000 000 0000 10 0 1 0000" + SYNC);
    }

    private void dropBit() {
        says("Terms", "26 is 1 by RATE 3, else 0;");
        for (int r = 0; r < 4; r++) {
            run("rates(" + r + "); lays(0, 1, 0); bit(26) = " + (r == 3 ? 1 : 0));
        }
        dueWord("rates(3); lays(0, 1, 0);", 0, "0000 00 0000 000 0000 000 0000 00 1 1 0000" + SYNC);
        dueWord("rates(3); lays(1800, 1, 15);", 0, "0100 00 0000 000 1000 000 0000 00 1 1 1111" + SYNC);
        dueWord("rates(3); lays(2589407, 1, 0);", 0, "1001 01 1001 101 1001 101 1100 01 1 1 0000" + SYNC);
    }

    private void evenBit() {
        says("Terms", "27 is such that an even number of BITS 0 to 31 are 1;");
        for (int user = 0; user < 16; user++) {
            int ones = Integer.bitCount(user);
            run("lays(0, 1, " + user + "); bit(27) = " + ones % 2 + "; lays(1, 1, " + user + "); bit(75) = " + (ones + 1) % 2);
        }
    }

    private void userAndSync() {
        says("Terms", "28 to 31 USER; 32 to 47, in this order, SYNC: 0 0 1 1 1 1 1 1 1 1 1 1 1 1 0 1.");
        dueWord("lays(0, 1, 15);", 0, "0000 00 0000 000 0000 000 0000 00 0 0 1111" + SYNC);
        for (int i = 0; i < 4; i++) {
            String user = "0".repeat(i) + "1" + "0".repeat(3 - i);
            dueWord("lays(0, 1, " + (1 << i) + ");", 0, "0000 00 0000 000 0000 000 0000 00 0 1" + user + SYNC);
        }
    }

    private void segments() {
        says("Terms", "THE TAPE: SEGMENTS 0, 1, .. (never more than 6), each from a FRAME on so many FRAMES (LONG, 1 .. 40), "
            + "with a USER (0 .. 15):");
        run("count(2) = 0; lays(0, 1, 0) = 1; lays(0, 1, 0) = 2; lays(0, 1, 0) = 3; lays(0, 1, 0) = 4; lays(0, 1, 0) = 5;"
            + "lays(0, 1, 0) = 6; lays(0, 1, 0) = FULL; count(2) = 6; count(3) = 288; undo(); count(2) = 5; lays(0, 40, 0) = 6;"
            + "lays(0, 1, 0) = FULL; count(3) = 2160");
        run("lays(0, 0, 0) = BAD; lays(0, 1, 0) = 1; count(3) = 48; lays(0, 40, 15) = 2; count(3) = 1968; lays(0, 41, 0) = BAD;"
            + "lays(0, 1, -1) = BAD; lays(0, 1, 16) = BAD; count(2) = 2; count(3) = 1968");
    }

    private void wordsOneBehindTheOther() {
        says("Terms", "WORDS of all SEGMENTS one behind the other,");
        String laid = "lays(5, 2, 1); lays(5, 1, 2); lays(2159999, 3, 3);";
        dueWord(laid, 0, "1010 00 0000 000 0000 000 0000 00 0 1 1000" + SYNC);
        dueWord(laid, 1, "0110 00 0000 000 0000 000 0000 00 0 1 1000" + SYNC);
        dueWord(laid, 2, "1010 00 0000 000 0000 000 0000 00 0 1 0100" + SYNC);
        dueWord(laid, 3, "0010 01 1001 101 1001 101 1100 01 0 1 1100" + SYNC);
        dueWord(laid, 4, "0000 00 0000 000 0000 000 0000 00 0 0 1100" + SYNC);
        dueWord(laid, 5, "1000 00 0000 000 0000 000 0000 00 0 1 1100" + SYNC);
        dueWord(LONGEST, 39, "0010 10 1000 000 0000 000 0000 00 0 1 0000" + SYNC);
        dueWord(LONGEST, 40, "0000 00 0000 000 0000 000 0000 00 0 0 0000" + SYNC);
        dueWord(LONGEST, 239, "0010 10 1000 000 0000 000 0000 00 0 1 0000" + SYNC);
    }

    private void wordsByTheRate() {
        says("Terms", "by THE RATE as it is when they are played, or asked for.");
        String laid = "lays(24, 1, 0);";
        dueWord(laid, 0, "0010 01 0000 000 0000 000 0000 00 0 0 0000" + SYNC);
        dueWord(laid + "rates(0);", 0, "0000 00 1000 000 0000 000 0000 00 0 1 0000" + SYNC);
        dueWord(laid + "rates(3);", 0, "0010 01 0000 000 0000 000 0000 00 1 1 0000" + SYNC);
        run(laid + "rates(0); plays(48, 20, 0, 0); reading(0) = 24; reading(1) = 100");
        run(laid + "rates(2); plays(48, 20, 0, 0); reading(0) = 24; reading(1) = 24");
        // THE RATE is told in the middle of a word: the rest of it is by the new one
        run(laid + "plays(24, 20, 0, 0); rates(0); plays(24, 20, 0, 0); reader(3) = 0; reader(4) = 1");
        run(laid + "plays(24, 20, 0, 0); rates(3); plays(24, 20, 0, 0); reading(0) = 24; reader(4) = 0");
    }

    private void head() {
        says("Terms", "THE HEAD stands ahead of BIT h of THE TAPE (0 .. 48 times all LONG; 0 at first).");
        run("count(4) = 0; winds(0) = STATE; winds(1) = BAD; winds(-1) = BAD; lays(0, 1, 0); count(4) = 0; winds(49) = BAD;"
            + "winds(48) = 0; count(4) = 48; lays(0, 2, 0); count(4) = 48; winds(145) = BAD; winds(144) = 48; winds(0) = 144");
        run(LONGEST + "winds(11521) = BAD; winds(11520) = 0; plays(1, 20, 0, 0) = STATE; plays(1, 20, 0, 1) = 1; count(4) = 11519;"
            + "plays(2, 20, 0, 0) = 1; count(4) = 11520; winds(0) = 11520; plays(1, 20, 0, 1) = STATE");
    }

    private void halfAndShake() {
        says("Terms", "PLAYED: n BITS forward, or backward, with a HALF u (1 .. 200) and a SHAKE w (0 .. 9):");
        String laid = "lays(0, 1, 0);";
        changesNothing(laid, "plays(1, 0, 0, 0) = BAD; plays(1, 201, 0, 0) = BAD; plays(1, -1, 0, 0) = BAD;"
            + "plays(1, 20, -1, 0) = BAD; plays(1, 20, 10, 0) = BAD");
        // two halves of 1 are an interval of 2, too short for a BIT 0 here
        run(laid + "plays(1, 1, 0, 0) = 1; reader(1) = 2; reader(2) = 0; plays(1, 1, 0, 0) = 1; reader(1) = 0; reader(2) = 1;"
            + "reader(0) = 31");
        run(laid + "plays(1, 200, 0, 0) = 1; reader(0) = 130; reader(2) = 1");
        run(laid + "plays(2, 20, 9, 0) = 2; reader(0) = 42; reader(2) = 2");
        run(laid + "plays(2, 20, 0, 0) = 2; reader(0) = 40; reader(2) = 2");
    }

    /** With a half of 31 each half is a BIT 0 of its own, so that a 1 shows as two BITS. */
    private void order() {
        says("Terms", "one BIT after the other that THE HEAD goes over comes to THE READER as intervals between EDGES:");
        String laid = "lays(5, 1, 0);";
        for (int h = 0; h < 48; h++) {
            int told = run(laid).row("bit(" + h + ")") + 1;
            run(laid + "winds(" + h + "); plays(1, 31, 0, 0) = 1; reader(2) = " + told + "; count(4) = " + (h + 1));
            run(laid + "winds(" + (h + 1) + "); plays(1, 31, 0, 1) = 1; reader(2) = " + told + "; count(4) = " + h);
        }
        run("lays(12, 3, 9); plays(47, 20, 0, 0); reader(3) = 0; plays(1, 20, 0, 0); reading(0) = 12; reading(2) = 9;"
            + "plays(48, 20, 0, 0); reading(0) = 13; plays(96, 20, 0, 0) = 48; reading(0) = 14; reading(3) = 1;"
            + "plays(47, 20, 0, 1); reader(3) = 3; plays(1, 20, 0, 1); reading(0) = 14; reading(3) = -1;"
            + "plays(48, 20, 0, 1); reading(0) = 13; plays(96, 20, 0, 1) = 48; reading(0) = 12; reading(2) = 9");
        // over where one SEGMENT ends and the next begins, both ways
        run("lays(7, 1, 1); lays(50, 1, 2); plays(96, 20, 0, 0); reading(0) = 50; reading(2) = 2; reader(6) = 1;"
            + "plays(96, 20, 0, 1); reading(0) = 7; reading(2) = 1; reader(6) = 3; reader(3) = 4");
    }

    private void halves() {
        says("Terms", "a BIT 0 as one interval of two halves, a BIT 1 as two intervals of one half each.");
        // BIT 33 is a 0, BIT 34 a 1
        run("lays(0, 1, 0); winds(33); plays(1, 30, 0, 0); reader(0) = 45; reader(1) = 0; reader(2) = 1;"
            + "plays(1, 15, 0, 0); reader(0) = 41; reader(1) = 0; reader(2) = 2; reader(5) = 0");
        run("lays(0, 1, 0); winds(34); plays(1, 200, 0, 0); reader(0) = 110; reader(2) = 2");
        run("lays(0, 1, 0); winds(34); edge(7); plays(1, 10, 0, 0); reader(1) = 10; reader(2) = 1; reader(0) = 34");
    }

    /** Over noughts: CELL tells each half, of the k-th one of this play. */
    private void shakes() {
        says("Terms", "the k-th one (0 on, of this play) by halves of u + ((k * w) % 5):");
        int[][] shakes = {{0, 0, 0, 0, 0}, {0, 1, 2, 3, 4}, {0, 2, 4, 1, 3}, {0, 3, 1, 4, 2}, {0, 4, 3, 2, 1}};
        for (int w = 0; w < 10; w++) {
            int cell = 40;
            Run single = run("lays(0, 1, 0)");
            for (int k = 0; k < 12; k++) {
                cell = (3 * cell + 2 * (20 + shakes[w % 5][k % 5])) / 4;
                run("lays(0, 1, 0); plays(" + (k + 1) + ", 20, " + w + ", 0); reader(0) = " + cell);
                run("lays(0, 1, 0); winds(" + (k + 1) + "); plays(12, 20, " + w + ", 1); reader(0) = " + cell);
                // each play begins with 0 again
                single.rows("plays(1, 20, " + w + ", 0); reader(0) = 40");
            }
        }
        // both halves of a BIT 1 are shaken by the same k
        run("lays(0, 1, 0); winds(33); plays(2, 16, 4, 0); reader(0) = 38; reader(2) = 2; reader(5) = 0; reader(1) = 0");
        run("lays(0, 1, 0); winds(36); plays(2, 16, 3, 0); reader(0) = 38; reader(2) = 2");
    }

    private void lays() {
        says("Promise 6", "A SEGMENT is laid behind all others: SEGMENTS.");
        run("lays(3, 2, 1) = 1; lays(9, 1, 2) = 2; plays(144, 20, 0, 0); reading(0) = 9; reading(2) = 2; reader(6) = 1;"
            + "lays(0, 1, 3) = 3; plays(48, 20, 0, 0) = 48; reading(0) = 0; reading(2) = 3");
        canBeUndone(Scenes.NEW, "lays(0, 1, 0) = 1; lays(2159999, 40, 15) = 1");
        canBeUndone(Scenes.BUSY, "lays(0, 1, 0) = 3; lays(2591999, 40, 15) = 3");
        leaves(Scenes.BUSY, "lays(0, 1, 0);", "count(0); count(1); count(4); count(5); reader(0); reader(2); wheel(0)");
    }

    private void laysRefused() {
        says("Promise 6", "BAD (the FRAME 0 .. DAY less 1); FULL: 6.");
        for (int r = 0; r < 4; r++) {
            int day = new int[] {2073600, 2160000, 2592000, 2589408}[r];
            changesNothing("rates(" + r + ");", "lays(-1, 1, 0) = BAD; lays(" + day + ", 1, 0) = BAD");
            run("rates(" + r + "); lays(0, 1, 0) = 1; lays(" + (day - 1) + ", 1, 0) = 2");
        }
        String bad = "lays(-1, 1, 0) = BAD; lays(MIN, 1, 0) = BAD; lays(2592000, 1, 0) = BAD; lays(MAX, 1, 0) = BAD;"
            + "lays(0, 0, 0) = BAD; lays(0, 41, 0) = BAD; lays(0, -1, 0) = BAD; lays(0, MIN, 0) = BAD; lays(0, MAX, 0) = BAD;"
            + "lays(0, 1, -1) = BAD; lays(0, 1, 16) = BAD; lays(0, 1, MIN) = BAD; lays(0, 1, MAX) = BAD";
        changesNothing(Scenes.BUSY, bad);
        // BAD goes ahead of FULL
        changesNothing(Scenes.FULL, bad + "; lays(2589408, 1, 0) = BAD; lays(0, 1, 0) = FULL; lays(2589407, 40, 15) = FULL");
    }

    private void winds() {
        says("Promise 7", "THE HEAD stands ahead of BIT h: where it was.");
        run(Scenes.BUSY + "winds(0) = 280; count(4) = 0; winds(288) = 0; count(4) = 288; winds(287) = 288; winds(1) = 287");
        canBeUndone(Scenes.BUSY, "winds(0) = 280; winds(279) = 280; winds(281) = 280; winds(288) = 280");
        leaves(Scenes.BUSY, "winds(0);", "reader(0); reader(1); reader(2); count(2); count(3); wheel(0)");
    }

    private void windsRefused() {
        says("Promise 7", "BAD; STATE: it stands there.");
        changesNothing(Scenes.BUSY, "winds(-1) = BAD; winds(289) = BAD; winds(MIN) = BAD; winds(MAX) = BAD; winds(280) = STATE");
        changesNothing(Scenes.FULL, "winds(-1) = BAD; winds(625) = BAD; winds(624) = STATE");
        changesNothing(Scenes.NEW, "winds(-1) = BAD; winds(1) = BAD; winds(0) = STATE");
    }

    private void bit() {
        says("Promise 8", "A BIT of THE TAPE. BAD.");
        changesNothing(Scenes.NEW, "bit(-1) = BAD; bit(0) = BAD; bit(1) = BAD");
        changesNothing(Scenes.BUSY, "bit(-1) = BAD; bit(0) = 1; bit(47) = 1; bit(48) = 1; bit(287) = 1; bit(288) = BAD;"
            + "bit(MIN) = BAD; bit(MAX) = BAD");
        changesNothing(Scenes.FULL, "bit(-1) = BAD; bit(0) = 0; bit(623) = 1; bit(624) = BAD");
        run(LONGEST + "bit(11518) = 0; bit(11519) = 1; bit(11520) = BAD");
        run("lays(0, 1, 0); bit(47) = 1; bit(48) = BAD; undo(); bit(0) = BAD");
    }

    private void playsForward() {
        says("Promise 9", "PLAYED forward (back = 0) or backward (1), n BITS (1 .. 4800), or as many as THE TAPE has there, "
            + "if these are fewer: how many BITS.");
        String laid = "lays(0, 2, 0);";
        run(laid + "plays(95, 20, 0, 0) = 95; count(4) = 95; plays(1, 20, 0, 0) = 1; plays(1, 20, 0, 0) = STATE");
        run(laid + "plays(96, 20, 0, 0) = 96; count(4) = 96; plays(1, 20, 0, 0) = STATE");
        run(laid + "plays(97, 20, 0, 0) = 96; count(4) = 96; reader(3) = 2");
        run(laid + "winds(95); plays(2, 20, 0, 0) = 1; count(4) = 96");
        canBeUndone(Scenes.BUSY, "plays(1, 1, 0, 0) = 1; plays(8, 200, 9, 0) = 8; plays(9, 20, 0, 0) = 8; plays(4800, 20, 0, 0) = 8");
    }

    private void playsBackward() {
        String laid = "lays(0, 2, 0); winds(96);";
        run(laid + "plays(95, 20, 0, 1) = 95; count(4) = 1; plays(1, 20, 0, 1) = 1; plays(1, 20, 0, 1) = STATE");
        run(laid + "plays(96, 20, 0, 1) = 96; count(4) = 0; plays(1, 20, 0, 1) = STATE");
        run(laid + "plays(97, 20, 0, 1) = 96; count(4) = 0; reader(3) = 2");
        run(laid + "winds(1); plays(2, 20, 0, 1) = 1; count(4) = 0");
        canBeUndone(Scenes.BUSY, "plays(1, 1, 0, 1) = 1; plays(280, 200, 9, 1) = 280; plays(281, 20, 0, 1) = 280;"
            + "plays(4800, 20, 0, 1) = 280");
    }

    private void playsMost() {
        run(LONGEST + "plays(4801, 20, 0, 0) = BAD; plays(4800, 20, 0, 0) = 4800; count(4) = 4800; plays(4800, 20, 0, 1) = 4800;"
            + "count(4) = 0; winds(6720); plays(4800, 20, 9, 0) = 4800; count(4) = 11520; winds(6721);"
            + "plays(4800, 20, 0, 0) = 4799; winds(4799); plays(4800, 20, 0, 1) = 4799; winds(4801); plays(4801, 20, 0, 1) = BAD;"
            + "plays(4800, 20, 9, 1) = 4800; count(4) = 1");
    }

    private void playsRefused() {
        says("Promise 9", "BAD; STATE: THE TAPE has none there.");
        String bad = "plays(0, 20, 0, 0) = BAD; plays(-1, 20, 0, 0) = BAD; plays(4801, 20, 0, 0) = BAD; plays(MIN, 20, 0, 0) = BAD;"
            + "plays(MAX, 20, 0, 0) = BAD; plays(1, 0, 0, 0) = BAD; plays(1, 201, 0, 0) = BAD; plays(1, MIN, 0, 0) = BAD;"
            + "plays(1, MAX, 0, 0) = BAD; plays(1, 20, -1, 0) = BAD; plays(1, 20, 10, 0) = BAD; plays(1, 20, MIN, 0) = BAD;"
            + "plays(1, 20, MAX, 0) = BAD; plays(1, 20, 0, -1) = BAD; plays(1, 20, 0, 2) = BAD; plays(1, 20, 0, MIN) = BAD;"
            + "plays(1, 20, 0, MAX) = BAD";
        changesNothing(Scenes.BUSY, bad);
        // BAD goes ahead of STATE
        changesNothing(Scenes.NEW, bad + "; plays(1, 1, 0, 0) = STATE; plays(1, 1, 0, 1) = STATE; plays(4800, 200, 9, 0) = STATE");
        changesNothing(Scenes.FULL, bad + "; plays(1, 20, 0, 0) = STATE; plays(4800, 200, 9, 0) = STATE");
        changesNothing(Scenes.BUSY + "winds(0);", "plays(1, 20, 0, 1) = STATE; plays(4800, 200, 9, 1) = STATE");
    }
}
