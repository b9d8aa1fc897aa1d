/** Promises 21 to 27: undo, sees, forget, unseen, keep, back, count. */
public final class UndoTest {
    private static final Checks CHECKS = new Checks();

    public static void main(String[] args) {
        eachCallIsUndone();
        eachPartComesBack();
        eightAreKnown();
        undoneAndDoneAgain();
        seenStays();
        sees();
        unseen();
        images();
        imagesAndUndo();
        wrongNumbers();
        CHECKS.end();
    }

    private static void due(String call, int got, int want) {
        CHECKS.due(call, got, want);
    }

    /** All that can be asked for, but SEEN and how many may be UNDONE; of THE TAPE some 40 BITS, as 512 calls are the most. */
    private static int[] all(FrameClocks x) {
        int[] all = new int[100];
        int at = 0;
        for (int i = 0; i < 5; i++) {
            all[at++] = x.count(i);
            all[at++] = x.wheel(i);
        }
        for (int i = 0; i < 8; i++) {
            all[at++] = x.reader(i);
        }
        for (int i = 0; i < 4; i++) {
            all[at++] = x.reading(i);
            for (int c = 0; c < 3; c++) {
                all[at++] = x.chaser(c, i);
            }
        }
        int bits = x.count(3);
        for (int h = 0; h < bits; h += 1 + bits / 40) {
            all[at++] = x.bit(h);
        }
        return all;
    }

    private static void dueAll(String name, FrameClocks x, int[] want) {
        int[] got = all(x);
        for (int i = 0; i < want.length; i++) {
            due(name + ": " + i, got[i], want[i]);
        }
    }

    /** An object in which no part is as at first. */
    private static FrameClocks busy() {
        FrameClocks x = new FrameClocks();
        x.rates(2);
        x.lays(2591995, 10, 5);
        x.plays(480, 30, 4, 0);
        x.lays(77, 2, 8);
        x.plays(40, 30, 4, 0);
        x.edge(31);
        x.misses();
        x.holds(9);
        for (int c = 0; c < 3; c++) {
            x.offsets(c, 100 * c + 1);
            x.chases(c, 7);
        }
        return x;
    }

    private static int doCall(FrameClocks x, int which) {
        switch (which) {
            case 0: return x.rates(0);
            case 1: return x.lays(5, 1, 1);
            case 2: return x.winds(3);
            case 3: return x.plays(100, 25, 0, 1);
            case 4: return x.edge(100);
            case 5: return x.misses();
            case 6: return x.holds(0);
            case 7: return x.offsets(1, -4);
            case 8: return x.chases(2, 3);
            default: return x.begins();
        }
    }

    private static void eachCallIsUndone() {
        for (int which = 0; which < 10; which++) {
            FrameClocks x = busy();
            int[] ahead = all(x);
            int answer = doCall(x, which);
            due("call " + which + " is not refused", answer < 0 ? 1 : 0, 0);
            int[] behind = all(x);
            boolean same = java.util.Arrays.equals(ahead, behind);
            due("call " + which + " changes something", same ? 1 : 0, 0);
            due("undo of " + which, x.undo(), 7);
            dueAll("undone " + which, x, ahead);
            due("the answer is the same again", doCall(x, which), answer);
            dueAll("done again " + which, x, behind);
        }
    }

    /** Each part of a READING, a BROKEN one, BITS, the way of THE WHEEL. */
    private static void eachPartComesBack() {
        FrameClocks x = new FrameClocks();
        x.lays(100, 3, 1);
        x.lays(200, 3, 2);
        x.plays(144, 20, 0, 0);
        int[] ahead = all(x);
        x.plays(144, 20, 0, 0);
        due("user", x.reading(2), 2);
        x.undo();
        dueAll("a reading", x, ahead);
        x.winds(288);
        ahead = all(x);
        x.plays(288, 20, 0, 1);
        due("it goes backward", x.wheel(1), -1);
        x.undo();
        dueAll("backward", x, ahead);
        int[] word = Checks.word(0, 0, 0, 0, 1, 0);
        Checks.give(x, java.util.Arrays.copyOf(word, 47));
        x.edge(20);
        x.edge(20);
        due("broken", x.reader(4), 1);
        x.undo();
        due("broken", x.reader(4), 0);
        x.edge(20);
        due("broken again", x.reader(4), 1);
        x.undo();
        x.undo();
        x.edge(40);
        x.undo();
        x.edge(20);
        due("the same 47 bits", x.edge(20), 0);
        due("broken", x.reader(4), 1);
    }

    private static void eightAreKnown() {
        FrameClocks x = new FrameClocks();
        for (int i = 1; i <= 20; i++) {
            x.holds(20 + i);
            due("count(6)", x.count(6), Math.min(i, 8));
        }
        for (int i = 7; i >= 0; i--) {
            due("undo()", x.undo(), i);
            due("hold", x.wheel(3), 32 + i);
        }
        due("undo()", x.undo(), FrameClocks.STATE);
        due("hold", x.wheel(3), 32);
    }

    private static void undoneAndDoneAgain() {
        FrameClocks x = new FrameClocks();
        x.holds(1);
        x.holds(2);
        x.holds(3);
        x.undo();
        x.undo();
        x.holds(4);
        due("undo()", x.undo(), 1);
        due("hold", x.wheel(3), 1);
        due("undo()", x.undo(), 0);
        due("hold", x.wheel(3), 5);
        due("refused calls are not known", x.holds(100), FrameClocks.BAD);
        due("undo()", x.undo(), FrameClocks.STATE);
    }

    private static void seenStays() {
        FrameClocks x = new FrameClocks();
        x.holds(1);
        x.sees(24, 24);
        x.keep(0);
        x.holds(2);
        due("sees, keep are not known", x.count(6), 2);
        due("undo()", x.undo(), 1);
        due("undo()", x.undo(), 0);
        due("seen", x.count(5), 1);
        due("the image stays", x.back(0), 0);
        due("hold", x.wheel(3), 1);
        due("seen stays by back()", x.count(5), 1);
    }

    private static void sees() {
        FrameClocks x = new FrameClocks();
        due("sees(-1, 0)", x.sees(-1, 0), FrameClocks.BAD);
        due("sees(23596000, 0)", x.sees(23596000, 0), FrameClocks.BAD);
        due("sees(0, -1)", x.sees(0, -1), FrameClocks.BAD);
        due("sees(0, -8)", x.sees(0, -8), FrameClocks.BAD);
        due("sees(0, -10)", x.sees(0, -10), FrameClocks.BAD);
        due("sees(0, NO)", x.sees(0, FrameClocks.NO), FrameClocks.BAD);
        due("refused", x.count(5), 0);
        due("sees(0, 0)", x.sees(0, 0), 1);
        due("sees(23595999, NONE)", x.sees(23595999, FrameClocks.NONE), 2);
        due("unseen()", x.unseen(), 15);
        due("sees(0, max)", x.sees(0, Integer.MAX_VALUE), 3);
        due("unseen()", x.unseen(), 0);
        due("sees", x.sees(0, 0), 4);
        due("sees", x.sees(0, 0), 5);
        due("sees", x.sees(0, 0), 6);
        due("BAD goes ahead of FULL", x.sees(0, -1), FrameClocks.BAD);
        due("FULL", x.sees(0, 0), FrameClocks.FULL);
        due("count(5)", x.count(5), 6);
        due("forget()", x.forget(), 6);
        due("forget()", x.forget(), 0);
        due("unseen()", x.unseen(), 15);
        due("sees", x.sees(1, 1), 1);
        due("nothing is known to undo", x.count(6), 0);
    }

    private static void unseen() {
        dueUnseen(24, FrameClocks.NONE, 1);
        dueUnseen(24, 24, 14);
        dueUnseen(25, 25, 12);
        dueUnseen(25, FrameClocks.NONE, 3);
        dueUnseen(29, 29, 12);
        dueUnseen(30, FrameClocks.NONE, 15);
        dueUnseen(100, 24, 1);
        dueUnseen(100, 25, 2);
        dueUnseen(100, 30, 12);
        dueUnseen(10000, FrameClocks.NONE, 8);
        dueUnseen(10000, 1800, 4);
        dueUnseen(10002, 1800, 8);
        dueUnseen(10002, 1802, 4);
        dueUnseen(23595923, 2073599, 1);
        dueUnseen(6000, FrameClocks.NONE, 15);
        FrameClocks x = new FrameClocks();
        x.sees(29, 29);
        x.sees(10001, FrameClocks.NONE);
        due("both", x.unseen(), 8);
        x.rates(0);
        due("the rate is none of it", x.unseen(), 8);
        x.sees(10001, 1801);
        due("all three", x.unseen(), 0);
        due("forget()", x.forget(), 3);
        due("nothing is left of it", x.unseen(), 15);
        x.sees(0, 0);
        due("nor behind what is seen anew", x.unseen(), 15);
    }

    private static void dueUnseen(int number, int frame, int bits) {
        FrameClocks x = new FrameClocks();
        x.sees(number, frame);
        due("unseen() behind sees(" + number + ", " + frame + ")", x.unseen(), bits);
    }

    private static void images() {
        FrameClocks x = busy();
        int[] ahead = all(x);
        due("keep(0)", x.keep(0), 2);
        due("back(1)", x.back(1), FrameClocks.STATE);
        for (int which = 0; which < 10; which++) {
            doCall(x, which);
        }
        int[] behind = all(x);
        due("keep(1)", x.keep(1), 3);
        due("back(0)", x.back(0), 2);
        dueAll("image 0", x, ahead);
        due("back(1)", x.back(1), 3);
        dueAll("image 1", x, behind);
        for (int which = 0; which < 10; which++) {
            doCall(x, which);
        }
        due("back(0) again", x.back(0), 2);
        dueAll("image 0 again", x, ahead);
        tapesOfImages();
        x.holds(50);
        due("keep(0) anew", x.keep(0), 2);
        x.holds(51);
        x.back(0);
        due("hold", x.wheel(3), 50);
    }

    private static void tapesOfImages() {
        FrameClocks x = new FrameClocks();
        x.lays(70, 2, 3);
        int[] ahead = all(x);
        x.keep(0);
        x.undo();
        x.lays(900, 4, 12);
        x.lays(901, 5, 13);
        due("back(0)", x.back(0), 1);
        dueAll("a tape's image", x, ahead);
        x.lays(902, 6, 14);
        x.keep(1);
        due("back(0)", x.back(0), 1);
        dueAll("a tape's image again", x, ahead);
        due("back(1)", x.back(1), 2);
        due("bits", x.count(3), 48 * 8);
        FrameClocks y = new FrameClocks();
        y.lays(70, 2, 3);
        y.lays(170, 6, 4);
        ahead = all(y);
        y.keep(1);
        y.undo();
        y.undo();
        y.lays(900, 7, 12);
        y.lays(901, 1, 13);
        due("back(1)", y.back(1), 2);
        dueAll("two segments", y, ahead);
    }

    private static void imagesAndUndo() {
        FrameClocks x = new FrameClocks();
        x.holds(1);
        x.keep(0);
        due("keep() changes nothing here", x.count(6), 1);
        x.holds(2);
        x.back(0);
        due("count(6)", x.count(6), 0);
        due("undo()", x.undo(), FrameClocks.STATE);
        due("hold", x.wheel(3), 1);
        x.holds(3);
        due("undo()", x.undo(), 0);
        due("hold", x.wheel(3), 1);
        x.holds(4);
        due("refused: back(1)", x.back(1), FrameClocks.STATE);
        due("refused: back(2)", x.back(2), FrameClocks.BAD);
        due("count(6)", x.count(6), 1);
        due("an image is kept once for all", x.keep(1), 0);
        x.undo();
        due("back(1)", x.back(1), 0);
        due("hold", x.wheel(3), 4);
    }

    private static void wrongNumbers() {
        FrameClocks x = new FrameClocks();
        due("keep(-1)", x.keep(-1), FrameClocks.BAD);
        due("keep(2)", x.keep(2), FrameClocks.BAD);
        due("back(-1)", x.back(-1), FrameClocks.BAD);
        due("back(2)", x.back(2), FrameClocks.BAD);
        due("count(-1)", x.count(-1), FrameClocks.BAD);
        due("count(7)", x.count(7), FrameClocks.BAD);
        due("count(max)", x.count(Integer.MAX_VALUE), FrameClocks.BAD);
    }
}
