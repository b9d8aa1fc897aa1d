/** Of what is UNDONE, SEEN, kept in IMAGES and refused, and promises 21 to 27. */
final class UndoSentences extends Sentences {
    /** One of each of the calls that can be UNDONE; none of them is refused behind BUSY. */
    private static final String[] CALLS = {"rates(0);", "lays(5, 1, 1);", "winds(3);", "plays(100, 25, 0, 0);", "edge(100);",
        "misses();", "holds(0);", "offsets(1, -4);", "chases(2, 3);", "begins();"};

    UndoSentences(Checks checks, Document document) {
        super(checks, document);
    }

    @Override
    void test() {
        done();
        eightAreKnown();
        seenAndImagesStay();
        seen();
        unseenRates();
        imagesKeepAll();
        imagesKeepNoMore();
        refused();
        asked();
        constants();
        undo();
        sees();
        forget();
        unseen();
        keep();
        back();
        count();
        lastCall();
    }

    private static String first(int many) {
        StringBuilder rows = new StringBuilder();
        for (int i = 0; i < many; i++) {
            rows.append(CALLS[i]);
        }
        return rows.toString();
    }

    private void done() {
        says("Terms", "DONE: THE RATE told, a SEGMENT laid, THE HEAD wound, PLAYED, an interval given, MISSED, HOLD told, an OFFSET told, "
            + "STEPS chased, THE READER begun anew.");
        canBeUndone(Scenes.BUSY, String.join("", CALLS));
        // these change nothing on a new object, and are DONE all the same
        canBeUndone(Scenes.NEW, "misses() = 0; begins() = 0; chases(0, 1) = 0");
        run(Scenes.BUSY + "sees(0, 0); count(6) = 4; forget(); count(6) = 4; keep(1); count(6) = 4; unseen(); count(6) = 4");
    }

    private void eightAreKnown() {
        says("Terms", "UNDONE: the latest of these calls (rates(), lays(), winds(), plays(), edge(), misses(), holds(), offsets(), "
            + "chases(), begins()) that was not refused: all becomes as it was ahead of it (8 are known, older ones are lost);");
        for (int undone = 1; undone <= 8; undone++) {
            alike(Scenes.BUSY + first(10) + "undo();".repeat(undone), Scenes.BUSY + first(10 - undone));
        }
        alike(Scenes.BUSY + first(10) + "undo();".repeat(12), Scenes.BUSY + first(2));
        alike(Scenes.BUSY + first(3) + "undo();".repeat(12), Scenes.BUSY + "undo();".repeat(4));
        run("holds(1);".repeat(3) + "count(6) = 1; undo() = 0; undo() = STATE; wheel(3) = 5");
        StringBuilder nine = new StringBuilder();
        for (int i = 1; i <= 9; i++) {
            nine.append("holds(").append(10 + i).append("); count(6) = ").append(Math.min(i, 8)).append(";");
        }
        run(nine + "undo() = 7; undo() = 6; undo() = 5; undo() = 4; undo() = 3; undo() = 2; undo() = 1; undo() = 0; wheel(3) = 11;"
            + "undo() = STATE; wheel(3) = 11; count(6) = 0");
        // what is done behind undo() takes the place of what was UNDONE
        run("holds(1); holds(2); holds(3); undo(); undo() = 1; holds(4); count(6) = 2; undo() = 1; wheel(3) = 1; undo() = 0; wheel(3) = 5");
        run(nine + "undo() = 7; holds(30); count(6) = 8; holds(31); count(6) = 8; undo() = 7; wheel(3) = 30; undo() = 6; wheel(3) = 18");
    }

    private void seenAndImagesStay() {
        says("Terms", "SEEN, IMAGES stay.");
        run("sees(24, 24); holds(1); undo() = 0; count(5) = 1; unseen() = 14");
        run("holds(1); sees(24, 24); undo() = 0; count(5) = 1; unseen() = 14");
        run("sees(24, 24); holds(1); forget(); undo() = 0; count(5) = 0; unseen() = 15");
        run("holds(1); keep(0); undo() = 0; wheel(3) = 5; back(0) = 0; wheel(3) = 1");
        run("keep(0); holds(1); keep(0); holds(2); undo() = 1; undo() = 0; back(0) = 0; wheel(3) = 1");
    }

    private void seen() {
        says("Terms", "SEEN (never more than 6): by an unknown RATE a NUMBER has this FRAME, or none has it (NONE).");
        run("sees(0, 0) = 1; sees(0, 0) = 2; sees(1, 1) = 3; sees(2, 2) = 4; sees(3, 3) = 5; unseen() = 15; sees(24, 24) = 6; unseen() = 14;"
            + "sees(24, NONE) = FULL; sees(0, 0) = FULL; unseen() = 14; count(5) = 6; forget() = 6; sees(24, NONE) = 1; unseen() = 1");
    }

    private void unseenRates() {
        says("Terms", "UNSEEN: RATES (bits 0 to 3) by which all that was SEEN is so.");
        dueUnseen("", 15);
        dueUnseen("sees(23, 23);", 15);
        dueUnseen("sees(24, 24);", 14);
        dueUnseen("sees(24, NONE);", 1);
        dueUnseen("sees(25, 25);", 12);
        dueUnseen("sees(25, NONE);", 3);
        dueUnseen("sees(29, 29);", 12);
        dueUnseen("sees(29, NONE);", 3);
        dueUnseen("sees(30, NONE);", 15);
        dueUnseen("sees(30, 30);", 0);
        dueUnseen("sees(100, 24);", 1);
        dueUnseen("sees(100, 25);", 2);
        dueUnseen("sees(100, 30);", 12);
        dueUnseen("sees(10000, 1800);", 4);
        dueUnseen("sees(10000, NONE);", 8);
        dueUnseen("sees(10001, NONE);", 8);
        dueUnseen("sees(10002, 1800);", 8);
        dueUnseen("sees(10002, 1802);", 4);
        dueUnseen("sees(100000, 17982);", 8);
        dueUnseen("sees(23595923, 2073599);", 1);
        dueUnseen("sees(23595924, 2159999);", 2);
        dueUnseen("sees(23595929, 2591999);", 4);
        dueUnseen("sees(23595929, 2589407);", 8);
        dueUnseen("sees(23595929, NONE);", 3);
        dueUnseen("sees(23595930, NONE);", 15);
        dueUnseen("sees(6000, NONE);", 15);
        dueUnseen("sees(600000, NONE);", 15);
        dueUnseen("sees(24, 24); sees(25, NONE);", 2);
        dueUnseen("sees(29, 29); sees(10001, NONE);", 8);
        dueUnseen("sees(29, 29); sees(10001, 1801);", 4);
        dueUnseen("sees(24, 24); sees(24, NONE);", 0);
    }

    /** It is the same by each RATE: that which is told is none of it. */
    private void dueUnseen(String seen, int rates) {
        for (int r = 0; r < 4; r++) {
            run("rates(" + r + ");" + seen + "unseen() = " + rates);
            run(seen + "rates(" + r + "); unseen() = " + rates);
        }
    }

    private void imagesKeepAll() {
        says("Terms", "IMAGES 0, 1 keep all but SEEN, IMAGES, what can be UNDONE (nothing can be UNDONE behind back()).");
        for (int image = 0; image < 2; image++) {
            alike(Scenes.BUSY + "keep(" + image + ");" + first(10) + "back(" + image + ");", Scenes.BUSY);
            alike(Scenes.BUSY + "keep(" + image + ");" + first(9) + "back(" + image + ");" + first(9) + "back(" + image + ");", Scenes.BUSY);
            alike(Scenes.BUSY + "keep(" + image + ");" + first(5) + "keep(" + (1 - image) + ");" + first(9) + "back(" + image + ");", Scenes.BUSY);
            alike("keep(" + image + ");" + first(10) + "back(" + image + ");", Scenes.NEW);
        }
        // a tape that was shorter, then longer; each SEGMENT has its own FRAME, LONG, USER
        alike("lays(70, 2, 3); keep(0); undo(); lays(900, 4, 12); lays(901, 5, 13); back(0);", "lays(70, 2, 3);");
        alike("lays(70, 2, 3); lays(170, 6, 4); keep(1); undo(); undo(); lays(900, 7, 12); back(1);", "lays(70, 2, 3); lays(170, 6, 4);");
    }

    private void imagesKeepNoMore() {
        run("holds(1); sees(24, 24); keep(0); sees(25, 25); back(0); count(5) = 2; unseen() = 12");
        run("sees(24, 24); keep(0); forget(); back(0) = 0; count(5) = 0; unseen() = 15");
        run("keep(0); holds(1); keep(1); back(0) = 0; wheel(3) = 5; back(1) = 0; wheel(3) = 1; back(0) = 0; wheel(3) = 5");
        run("holds(1); holds(2); keep(0); count(6) = 2; back(0) = 0; count(6) = 0; undo() = STATE; wheel(3) = 2; holds(3); count(6) = 1;"
            + "undo() = 0; wheel(3) = 2; undo() = STATE");
        // a refused back() lets go nothing
        run("holds(1); back(0) = STATE; back(2) = BAD; count(6) = 1; undo() = 0; wheel(3) = 5");
    }

    private void refused() {
        says("Terms", "Refused, and nothing changes, the first of these that is so: BAD (a number is not as told, or there is no such thing), "
            + "STATE (as told), FULL.");
        changesNothing(Scenes.FULL, "lays(0, 41, 0) = BAD; lays(0, 1, 0) = FULL; sees(-1, 0) = BAD; sees(0, 0) = FULL; plays(0, 20, 0, 0) = BAD;"
            + "plays(1, 20, 0, 0) = STATE; offsets(3, 0) = BAD; offsets(0, 0) = STATE; rates(3) = STATE; holds(15) = STATE; winds(624) = STATE");
        changesNothing(Scenes.NEW, "plays(0, 20, 0, 0) = BAD; plays(1, 20, 0, 0) = STATE; back(2) = BAD; back(1) = STATE; undo() = STATE;"
            + "rates(1) = STATE; holds(5) = STATE; winds(0) = STATE; offsets(0, 0) = STATE");
        // they are not known as calls that can be UNDONE
        run("holds(1); holds(100) = BAD; holds(1) = STATE; lays(0, 0, 0) = BAD; plays(1, 1, 0, 0) = STATE; count(6) = 1; undo() = 0; wheel(3) = 5");
    }

    private void asked() {
        says("Terms", "What is asked changes nothing.");
        String asks = "number(0); number(-1); frame(0); frame(99); frame(-1); dropped(0, 1); dropped(1, 0); dropped(-1, 0); bit(0); bit(-1);"
            + "reader(0); reader(7); reading(0); reading(3); wheel(0); wheel(4); chaser(0, 0); chaser(2, 3); there(0); there(1); there(2);"
            + "unseen(); count(0); count(6)";
        changesNothing(Scenes.NEW, asks);
        changesNothing(Scenes.BUSY, asks);
        changesNothing(Scenes.FULL, asks);
    }

    private void constants() {
        says("Terms", "The constants: NO = -2147483647: What is BAD where a number may be below 0.");
        due("NO", FrameClocks.NO, -2147483647);
        due("BAD", FrameClocks.BAD, -1);
        due("STATE", FrameClocks.STATE, -2);
        due("FULL", FrameClocks.FULL, -3);
        due("NONE", FrameClocks.NONE, -9);
        run("reading(4) = NO; wheel(5) = NO; chaser(3, 0) = NO; chaser(0, 4) = NO; reader(8) = BAD; count(7) = BAD; there(3) = BAD; bit(0) = BAD");
    }

    private void undo() {
        says("Promise 21", "UNDONE: how many more may be. STATE: none.");
        run(Scenes.BUSY + "undo() = 3; undo() = 2; undo() = 1; undo() = 0; undo() = STATE; undo() = STATE");
        run(Scenes.FULL + "undo() = 7; undo() = 6");
        changesNothing(Scenes.NEW, "undo() = STATE");
        changesNothing(Scenes.BUSY + "undo();".repeat(4), "undo() = STATE");
        changesNothing(Scenes.BUSY + "back(0);", "undo() = STATE");
    }

    private void sees() {
        says("Promise 22", "SEEN: how much there is. BAD (NUMBERS 0 .. 23595999; the FRAME NONE, or 0 or more); FULL: 6.");
        run("sees(0, 0) = 1; sees(23595999, NONE) = 2; sees(0, MAX) = 3; sees(23595999, 2592000) = 4; count(5) = 4; unseen() = 0");
        String bad = "sees(-1, 0) = BAD; sees(23596000, 0) = BAD; sees(MIN, 0) = BAD; sees(MAX, 0) = BAD; sees(0, -1) = BAD; sees(0, -8) = BAD;"
            + "sees(0, -10) = BAD; sees(0, MIN) = BAD; sees(0, NO) = BAD; sees(-1, NONE) = BAD; sees(23596000, NONE) = BAD; sees(NONE, 0) = BAD";
        changesNothing(Scenes.NEW, bad);
        changesNothing(Scenes.BUSY, bad);
        // BAD goes ahead of FULL
        changesNothing(Scenes.FULL, bad + "; sees(0, 0) = FULL; sees(23595999, NONE) = FULL; sees(0, MAX) = FULL");
        leaves(Scenes.BUSY, "sees(0, 0);", "count(0); count(2); count(4); count(6); reader(2); wheel(0)");
    }

    private void forget() {
        says("Promise 23", "Nothing is SEEN: how much was.");
        run("forget() = 0; sees(24, 24); forget() = 1; count(5) = 0; unseen() = 15; forget() = 0");
        run(Scenes.FULL + "unseen() = 8; forget() = 6; count(5) = 0; unseen() = 15; sees(24, NONE) = 1; unseen() = 1");
        leaves(Scenes.BUSY, "forget();", "count(0); count(2); count(4); count(6); reader(2); wheel(0)");
    }

    private void unseen() {
        says("Promise 24", "UNSEEN (bits).");
        changesNothing(Scenes.NEW, "unseen() = 15");
        changesNothing(Scenes.BUSY, "unseen() = 4");
        changesNothing(Scenes.FULL, "unseen() = 8");
    }

    private void keep() {
        says("Promise 25", "An IMAGE is kept: SEGMENTS. BAD.");
        run("keep(0) = 0; keep(1) = 0; lays(0, 1, 0); keep(0) = 1; back(1) = 0; back(0) = 1; keep(1) = 1");
        run(Scenes.FULL + "keep(0) = 6; count(6) = 8");
        // kept again, the later one counts
        run("holds(1); keep(0); holds(2); keep(0); holds(3); back(0); wheel(3) = 2");
        String bad = "keep(-1) = BAD; keep(2) = BAD; keep(MIN) = BAD; keep(MAX) = BAD";
        changesNothing(Scenes.NEW, bad);
        changesNothing(Scenes.BUSY, bad);
        changesNothing(Scenes.FULL, bad);
        alike(Scenes.BUSY + "keep(0); keep(1);", Scenes.BUSY);
    }

    private void back() {
        says("Promise 26", "All of that becomes as an IMAGE has it: SEGMENTS. BAD; STATE: none was kept.");
        run(Scenes.BUSY + "back(0) = 2; wheel(3) = 9; wheel(0) = 2; count(4) = 240; reader(1) = 0; reader(2) = 1; lays(0, 1, 0) = 3; back(0) = 2");
        String bad = "back(-1) = BAD; back(2) = BAD; back(MIN) = BAD; back(MAX) = BAD";
        changesNothing(Scenes.NEW, bad + "; back(0) = STATE; back(1) = STATE");
        changesNothing(Scenes.BUSY, bad + "; back(1) = STATE");
        changesNothing(Scenes.FULL, bad);
        changesNothing("keep(1);", "back(0) = STATE");
    }

    private void count() {
        says("Promise 27", "0 THE RATE, 1 DAY, 2 SEGMENTS, 3 BITS of THE TAPE, 4 where THE HEAD stands, 5 SEEN, 6 how many may be UNDONE. BAD.");
        changesNothing(Scenes.NEW, "count(-1) = BAD; count(0) = 1; count(1) = 2160000; count(2) = 0; count(6) = 0; count(7) = BAD");
        changesNothing(Scenes.BUSY, "count(MIN) = BAD; count(-1) = BAD; count(0) = 2; count(1) = 2592000; count(2) = 2; count(3) = 288;"
            + "count(4) = 280; count(5) = 2; count(6) = 4; count(7) = BAD; count(MAX) = BAD");
        changesNothing(Scenes.FULL, "count(0) = 3; count(1) = 2589408; count(2) = 6; count(3) = 624; count(4) = 624; count(5) = 6; count(6) = 8");
    }

    /** The 512th call answers as the others do, behind as many of the longest plays as there can be. */
    private void lastCall() {
        says("What it is", "An object is used for at most 512 calls after it has been made; what later calls answer is free.");
        run("lays(0, 40, 0);".repeat(3) + "plays(4800, 200, 0, 0) = 4800; plays(4800, 200, 0, 1) = 4800;".repeat(253) + "count(4) = 0; count(6) = 8;"
            + "reader(3) = 50600");
        run(Scenes.playedForward(1079998, 3) + "there(0) = NONE;".repeat(508) + "offsets(0, 1) = 1; chaser(0, 3) = -1079999");
    }
}
