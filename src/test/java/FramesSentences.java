/** Of RATES, FRAMES and NUMBERS, and promises 1 to 5. */
final class FramesSentences extends Sentences {
    private static final int[] DAYS = {2073600, 2160000, 2592000, 2589408};
    private static final int[] A_SECOND = {24, 25, 30, 30};

    FramesSentences(Checks checks, Document document) {
        super(checks, document);
    }

    @Override
    void test() {
        framesASecond();
        framesOfADay();
        howNumbersAreTold();
        nextNumbers();
        numbersLeftOut();
        days();
        roundTheDay();
        atFirst();
        segmentsByRates();
        wheelByRates();
        placesByRates();
        restByRates();
        newObject();
        rates();
        number();
        frame();
        framesThatNoneHas();
        dropped();
        droppedByOtherRates();
    }

    private static String rate(int r) {
        return "rates(" + r + ");";
    }

    private void framesASecond() {
        says("Terms", "0: 24 FRAMES a second; 1: 25; 2: 30; 3: 30, DROPPED.");
        for (int r = 0; r < 4; r++) {
            int f = A_SECOND[r];
            run(rate(r) + "number(" + (f - 1) + ") = " + (f - 1) + "; number(" + f + ") = 100; frame(100) = " + f);
        }
        changesNothing(Scenes.BUSY, "rates(-1) = BAD; rates(4) = BAD");
    }

    private void framesOfADay() {
        says("Terms", "FRAMES of a day are 0, 1, .. DAY less 1; each has a NUMBER hours, minutes, seconds, f "
            + "(0 to one less than FRAMES a second).");
        for (int r = 0; r < 4; r++) {
            int last = DAYS[r] - 1;
            int f = A_SECOND[r];
            run(rate(r) + "number(-1) = BAD; number(0) = 0; number(" + last + ") = " + (23595900 + f - 1)
                + "; number(" + DAYS[r] + ") = BAD; frame(" + (23595900 + f - 1) + ") = " + last
                + "; frame(" + (23595900 + f) + ") = NONE; frame(" + (f - 1) + ") = " + (f - 1)
                + "; frame(" + f + ") = NONE; frame(99) = NONE");
        }
    }

    private void howNumbersAreTold() {
        says("Terms", "A NUMBER is told as hours times 1000000 and minutes times 10000 and seconds times 100 and f.");
        run("number(93079) = 1020304; frame(1020304) = 93079; number(1) = 1; number(25) = 100; number(1500) = 10000;"
            + "number(90000) = 1000000; number(2069999) = 22595924; number(2070000) = 23000000");
    }

    private void nextNumbers() {
        says("Terms", "FRAME 0 has NUMBER 0; each next one has the next NUMBER,");
        for (int r = 0; r < 3; r++) {
            int f = A_SECOND[r];
            for (int[] next : new int[][] {{1, 100, 0}, {59, 5900, 5800}, {60, 10000, 5900}, {3600, 1000000, 595900},
                    {36000, 10000000, 9595900}, {86399, 23595900, 23595800}}) {
                int frame = next[0] * f;
                run(rate(r) + "number(" + frame + ") = " + next[1] + "; frame(" + next[1] + ") = " + frame
                    + "; number(" + (frame - 1) + ") = " + (next[2] + f - 1)
                    + "; frame(" + (next[2] + f - 1) + ") = " + (frame - 1));
            }
        }
    }

    /** Each minute of the day: its first FRAME, the one ahead of it, and the NUMBERS that may be left out. */
    private void numbersLeftOut() {
        says("Terms", "where by RATE 3 the NUMBERS of second 0 with f 0 and 1 of each minute that is no multiple of 10 "
            + "are left out.");
        int first = 0;
        for (int minute = 0; minute < 1440; minute++) {
            int number = minute / 60 * 1000000 + minute % 60 * 10000;
            boolean isFull = minute % 10 == 0;
            int third = isFull ? first + 2 : first;
            run("rates(3); number(" + first + ") = " + (isFull ? number : number + 2)
                + "; frame(" + number + ") = " + (isFull ? Integer.toString(first) : "NONE")
                + "; frame(" + (number + 1) + ") = " + (isFull ? Integer.toString(first + 1) : "NONE")
                + "; frame(" + (number + 2) + ") = " + third
                + "; frame(" + (number + 100) + ") = " + (third + 28)
                + "; frame(" + (number + 101) + ") = " + (third + 29));
            first += isFull ? 1800 : 1798;
            run("rates(3); number(" + (first - 1) + ") = " + (number + 5929) + "; frame(" + (number + 5929) + ") = "
                + (first - 1));
        }
        due("frames of all minutes", first, DAYS[3]);
        run("frame(10000) = 1500; frame(10001) = 1501; rates(0); frame(10000) = 1440; frame(10001) = 1441;"
            + "rates(2); frame(10000) = 1800; frame(10001) = 1801");
    }

    private void days() {
        says("Terms", "DAY: 2073600, 2160000, 2592000, 2589408 FRAMES by RATES 0 to 3.");
        run("rates(0); count(1) = 2073600; rates(1); count(1) = 2160000; rates(2); count(1) = 2592000;"
            + "rates(3); count(1) = 2589408");
    }

    private void roundTheDay() {
        says("Terms", "FRAMES are reckoned modulo DAY (ahead of FRAME 0 lies DAY less 1, behind that 0).");
        for (int r = 0; r < 4; r++) {
            int last = DAYS[r] - 1;
            run(rate(r) + Scenes.playedForward(last, 2) + "reading(0) = 0; reading(1) = 0; reader(7) = 2; reader(6) = 0");
            run(rate(r) + Scenes.playedBackward(last, 2) + "reading(0) = " + last + "; reader(7) = 2; reader(6) = 0");
            run(rate(r) + Scenes.playedForward(last - 2, 3) + "wheel(0) = " + last + "; misses() = 0; misses() = 1");
            run(rate(r) + Scenes.playedBackward(0, 3) + "wheel(0) = 0; misses() = " + last
                + "; misses() = " + (last - 1));
            run(rate(r) + "offsets(0, -1); chases(0, 1) = " + last + "; offsets(0, 0); chaser(0, 3) = 1;"
                + "chases(0, 2) = 0; chaser(0, 1) = 1; chases(0, 1) = 0; there(0) = 0");
            run(rate(r) + Scenes.playedForward(last - 2, 3) + "chaser(0, 3) = -1; offsets(0, 1); chaser(0, 3) = 0;"
                + "offsets(0, 2); chaser(0, 3) = 1; chases(0, 1) = 1");
            // all forty of a SEGMENT, the last of them FRAME 38
            run(rate(r) + Scenes.playedForward(last, 40) + "reading(0) = 38; reader(7) = 40; reader(3) = 40");
        }
    }

    private void atFirst() {
        says("Terms", "THE RATE is 1 at first.");
        run("count(0) = 1; rates(1) = STATE");
    }

    private void segmentsByRates() {
        says("Terms", "By rates() the first FRAMES of SEGMENTS, THE WHEEL and PLACES (below) become what they are "
            + "modulo the new DAY;");
        for (int from = 0; from < 4; from++) {
            for (int to = 0; to < 4; to++) {
                if (DAYS[from] > DAYS[to]) {
                    segmentsWrap(from, to);
                }
            }
        }
        // a longer day: what was the next day's FRAME 0 is the same day's now
        run("rates(0); lays(2073599, 2, 0); rates(1); plays(48, 20, 0, 0); reading(0) = 2073599;"
            + "plays(48, 20, 0, 0); reading(0) = 2073600");
    }

    private void segmentsWrap(int from, int to) {
        int day = DAYS[to];
        int last = DAYS[from] - 1;
        String laid = rate(from) + "lays(" + day + ", 1, 0); lays(" + last + ", 1, 0); lays(" + (day - 1) + ", 2, 0);";
        String word = "plays(48, 20, 0, 0); reading(0) = ";
        run(laid + rate(to) + word + "0;" + word + (last - day) + ";" + word + (day - 1) + ";" + word + "0");
        // it is so for good, but for undo(); the last word is behind the first FRAME of its SEGMENT, and that stayed
        run(laid + rate(to) + rate(from) + word + "0;" + word + (last - day) + ";" + word + (day - 1) + ";" + word + day);
        run(laid + rate(to) + "undo();" + word + day + ";" + word + last + ";" + word + (day - 1) + ";" + word + day);
        // the last of six
        run(rate(from) + "lays(0, 1, 0);".repeat(5) + "lays(" + (day + 1) + ", 1, 0);" + rate(to) + rate(from) + "winds(240);" + word + "1");
    }

    private void wheelByRates() {
        for (int from = 0; from < 4; from++) {
            for (int to = 0; to < 4; to++) {
                if (DAYS[from] > DAYS[to]) {
                    wheelWraps(from, to, DAYS[to] - 1, DAYS[to] - 1);
                    wheelWraps(from, to, DAYS[to], 0);
                    wheelWraps(from, to, DAYS[from] - 1, DAYS[from] - 1 - DAYS[to]);
                }
            }
        }
        run("rates(0);" + Scenes.playedForward(2073597, 3) + "rates(2); wheel(0) = 2073599; misses() = 2073600");
    }

    private void wheelWraps(int from, int to, int ahead, int behind) {
        String locked = rate(from) + Scenes.playedForward(ahead - 2, 3) + "wheel(0) = " + ahead + ";";
        run(locked + rate(to) + "wheel(0) = " + behind + ";" + rate(from) + "wheel(0) = " + behind);
        run(locked + rate(to) + "undo(); wheel(0) = " + ahead);
    }

    private void placesByRates() {
        for (int from = 0; from < 4; from++) {
            for (int to = 0; to < 4; to++) {
                for (int c = 0; c < 3 && DAYS[from] > DAYS[to]; c++) {
                    placesWrap(from, to, c);
                }
            }
        }
    }

    /** One CHASER stands at the new DAY, one a FRAME ahead of that, one as far behind it as it can. */
    private void placesWrap(int from, int to, int c) {
        int day = DAYS[to];
        int far = Math.min(DAYS[from] - 1 - day, 99999);
        int ahead = (c + 1) % 3;
        int behind = (c + 2) % 3;
        StringBuilder rows = new StringBuilder(rate(from) + Scenes.playedForward(day - 2, 3));
        rows.append("offsets(" + ahead + ", -1); offsets(" + behind + ", " + far + ");");
        for (int each = 0; each < 3; each++) {
            rows.append(("chases(" + each + ", 1000);").repeat(6));
            rows.append("offsets(" + each + ", 77);");
        }
        String places = "chaser(" + c + ", 0) = " + day + "; chaser(" + ahead + ", 0) = " + (day - 1) + "; chaser(" + behind
            + ", 0) = " + (day + far) + ";";
        run(rows + places + rate(to) + "chaser(" + c + ", 0) = 0; chaser(" + ahead + ", 0) = " + (day - 1) + "; chaser(" + behind
            + ", 0) = " + far + "; undo();" + places);
    }

    private void restByRates() {
        says("Terms", "a READING stays as it was read.");
        String last = "rates(2);" + Scenes.playedForward(2591999, 1);
        for (int r : new int[] {0, 1, 3}) {
            run(last + rate(r) + "reading(0) = 2591999; reading(1) = 23595929; reading(2) = 0; reading(3) = 1");
            leaves(Scenes.BUSY, rate(r), "reading(0); reading(1); reading(2); reading(3); reader(0); reader(1);"
                + "reader(2); reader(3); reader(4); reader(5); reader(6); reader(7); wheel(1); wheel(2); wheel(3);"
                + "wheel(4); chaser(0, 1); chaser(0, 2); chaser(1, 1); chaser(1, 2); chaser(2, 1); chaser(2, 2);"
                + "count(2); count(3); count(4); count(5); unseen()");
        }
        // that FRAME and 1, by the new DAY
        run(last + "rates(0); lays(518400, 1, 0); plays(48, 20, 0, 0); reading(0) = 518400; reader(7) = 2; reader(6) = 0");
        run(last + "rates(0); lays(0, 1, 0); plays(48, 20, 0, 0); reading(0) = 0; reader(7) = 1; reader(6) = 1");
    }

    private void newObject() {
        says("Promise 1", "FrameClocks(): All as at first, no SEGMENTS.");
        run("count(0) = 1; count(1) = 2160000; count(2) = 0; count(3) = 0; count(4) = 0; count(5) = 0; count(6) = 0;"
            + "reader(0) = 40; reader(1) = 0; reader(2) = 0; reader(3) = 0; reader(4) = 0; reader(5) = 0; reader(6) = 0;"
            + "reader(7) = 0; reading(0) = NONE; reading(1) = NONE; reading(2) = NONE; reading(3) = NONE;"
            + "wheel(0) = 0; wheel(1) = 1; wheel(2) = 0; wheel(3) = 5; wheel(4) = 0; unseen() = 15; bit(0) = BAD;"
            + "back(0) = STATE; back(1) = STATE; undo() = STATE");
        for (int c = 0; c < 3; c++) {
            run("chaser(" + c + ", 0) = 0; chaser(" + c + ", 1) = 0; chaser(" + c + ", 2) = 0; chaser(" + c
                + ", 3) = 0; there(" + c + ") = 0");
        }
    }

    private void rates() {
        says("Promise 2", "THE RATE becomes r: what it was.");
        for (int from = 0; from < 4; from++) {
            for (int to = 0; to < 4; to++) {
                if (from != to) {
                    run(rate(from) + "rates(" + to + ") = " + from + "; count(0) = " + to + "; count(1) = " + DAYS[to]);
                }
            }
        }
        canBeUndone(Scenes.BUSY, "rates(0) = 2; rates(1) = 2; rates(3) = 2");
        says("Promise 2", "BAD; STATE: it is that.");
        changesNothing(Scenes.BUSY, "rates(-1) = BAD; rates(4) = BAD; rates(MIN) = BAD; rates(MAX) = BAD; rates(2) = STATE");
        changesNothing(Scenes.FULL, "rates(-1) = BAD; rates(4) = BAD; rates(3) = STATE");
        changesNothing(Scenes.NEW, "rates(-1) = BAD; rates(4) = BAD; rates(1) = STATE");
        changesNothing("rates(0);", "rates(0) = STATE");
    }

    private void number() {
        says("Promise 3", "The NUMBER of a FRAME (0 .. DAY less 1) by THE RATE. BAD.");
        changesNothing(Scenes.BUSY, "number(MIN) = BAD; number(-9) = BAD; number(-1) = BAD; number(0) = 0; number(1800) = 10000;"
            + "number(2591999) = 23595929; number(2592000) = BAD; number(MAX) = BAD");
        changesNothing(Scenes.FULL, "number(-1) = BAD; number(0) = 0; number(1800) = 10002; number(2589407) = 23595929;"
            + "number(2589408) = BAD");
        run("rates(0); number(2073599) = 23595923; number(2073600) = BAD; rates(1); number(2073600) = 23022400;"
            + "number(2159999) = 23595924; number(2160000) = BAD");
    }

    private void frame() {
        says("Promise 4", "The FRAME of a NUMBER (0 .. 23595999) by THE RATE;");
        run("frame(0) = 0; frame(23595924) = 2159999; rates(0); frame(23595923) = 2073599; rates(2);"
            + "frame(23595929) = 2591999; rates(3); frame(23595929) = 2589407");
        says("Promise 4", "BAD.");
        changesNothing(Scenes.BUSY, "frame(MIN) = BAD; frame(-9) = BAD; frame(-1) = BAD; frame(0) = 0;"
            + "frame(23595999) = NONE; frame(23596000) = BAD; frame(MAX) = BAD");
    }

    private void framesThatNoneHas() {
        says("Promise 4", "NONE: no FRAME has it.");
        run("frame(24) = 24; frame(25) = NONE; frame(99) = NONE; frame(5924) = 1499; frame(5925) = NONE;"
            + "frame(6000) = NONE; frame(9900) = NONE; frame(9999) = NONE; frame(590000) = 88500; frame(600000) = NONE;"
            + "frame(990000) = NONE; frame(999999) = NONE; frame(1000000) = 90000; frame(22595924) = 2069999;"
            + "frame(22600000) = NONE; frame(22999999) = NONE; frame(23000000) = 2070000; frame(23595925) = NONE");
        run("rates(0); frame(23) = 23; frame(24) = NONE; rates(2); frame(29) = 29; frame(30) = NONE;"
            + "rates(3); frame(29) = 29; frame(30) = NONE; frame(10001) = NONE; frame(10002) = 1800; frame(90001) = NONE;"
            + "frame(100000) = 17982; frame(23590000) = NONE; frame(23590002) = 2587610; frame(23500000) = 2571426");
    }

    private void dropped() {
        says("Promise 5", "Of two FRAMES (0 .. DAY less 1): how many NUMBERS are left out from a's to b's, going forward. BAD.");
        run("rates(3); dropped(0, 0) = 0; dropped(0, 1799) = 0; dropped(0, 1800) = 2; dropped(1799, 1800) = 2;"
            + "dropped(1800, 1800) = 0; dropped(1800, 3597) = 0; dropped(1800, 3598) = 2; dropped(3597, 3598) = 2;"
            + "dropped(1799, 3598) = 4; dropped(0, 17981) = 18; dropped(0, 17982) = 18; dropped(17981, 17982) = 0;"
            + "dropped(17982, 19781) = 0; dropped(17982, 19782) = 2; dropped(0, 2589407) = 2592");
        // round the day: all that a day has, less those from b to a
        run("rates(3); dropped(2589407, 0) = 0; dropped(2589407, 1799) = 0; dropped(2589407, 1800) = 2;"
            + "dropped(2589407, 2589406) = 2592; dropped(1, 0) = 2592; dropped(1800, 1799) = 2590; dropped(1801, 1800) = 2592;"
            + "dropped(1800, 0) = 2590; dropped(2589407, 2589407) = 0; dropped(2587610, 0) = 0; dropped(2587609, 0) = 2");
        changesNothing(Scenes.FULL, "dropped(-1, 0) = BAD; dropped(0, -1) = BAD; dropped(2589408, 0) = BAD;"
            + "dropped(0, 2589408) = BAD; dropped(MIN, 0) = BAD; dropped(0, MIN) = BAD; dropped(MAX, 0) = BAD;"
            + "dropped(0, MAX) = BAD; dropped(0, 2589407) = 2592; dropped(2589407, 0) = 0");
    }

    private void droppedByOtherRates() {
        for (int r = 0; r < 3; r++) {
            int last = DAYS[r] - 1;
            run(rate(r) + "dropped(0, 0) = 0; dropped(0, " + last + ") = 0; dropped(" + last + ", 0) = 0; dropped(1, 0) = 0;"
                + "dropped(0, 1800) = 0; dropped(-1, 0) = BAD; dropped(0, -1) = BAD; dropped(0, " + DAYS[r] + ") = BAD;"
                + "dropped(" + DAYS[r] + ", 0) = BAD");
        }
    }
}
