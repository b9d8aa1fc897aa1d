/** Promises 1 to 5: the new object, rates, number, frame, dropped. */
public final class FramesTest {
    private static final Checks CHECKS = new Checks();

    public static void main(String[] args) {
        newObject();
        rates();
        wrapsByRates();
        segmentsWrapForGood();
        readingStaysByRates();
        numbers();
        framesOfNumbers();
        everyFrame();
        dropped();
        CHECKS.end();
    }

    private static void due(String call, int got, int want) {
        CHECKS.due(call, got, want);
    }

    private static void newObject() {
        FrameClocks x = new FrameClocks();
        int[] counts = {1, 2160000, 0, 0, 0, 0, 0};
        for (int i = 0; i < counts.length; i++) {
            due("new: count(" + i + ")", x.count(i), counts[i]);
        }
        int[] reader = {40, 0, 0, 0, 0, 0, 0, 0};
        for (int i = 0; i < reader.length; i++) {
            due("new: reader(" + i + ")", x.reader(i), reader[i]);
        }
        for (int i = 0; i < 4; i++) {
            due("new: reading(" + i + ")", x.reading(i), FrameClocks.NONE);
        }
        int[] wheel = {0, 1, 0, 5, 0};
        for (int i = 0; i < wheel.length; i++) {
            due("new: wheel(" + i + ")", x.wheel(i), wheel[i]);
        }
        for (int c = 0; c < 3; c++) {
            for (int i = 0; i < 4; i++) {
                due("new: chaser(" + c + ", " + i + ")", x.chaser(c, i), 0);
            }
            due("new: there(" + c + ")", x.there(c), 0);
        }
        due("new: unseen()", x.unseen(), 15);
        due("new: back(0)", x.back(0), FrameClocks.STATE);
        due("new: back(1)", x.back(1), FrameClocks.STATE);
        due("new: undo()", x.undo(), FrameClocks.STATE);
    }

    private static void rates() {
        FrameClocks x = new FrameClocks();
        due("rates(-1)", x.rates(-1), FrameClocks.BAD);
        due("rates(4)", x.rates(4), FrameClocks.BAD);
        due("rates(min)", x.rates(Integer.MIN_VALUE), FrameClocks.BAD);
        due("rates(1) again", x.rates(1), FrameClocks.STATE);
        due("refused: count(6)", x.count(6), 0);
        due("rates(0)", x.rates(0), 1);
        due("day 0", x.count(1), 2073600);
        due("rates(2)", x.rates(2), 0);
        due("day 2", x.count(1), 2592000);
        due("rates(3)", x.rates(3), 2);
        due("day 3", x.count(1), 2589408);
        due("rates(3) again", x.rates(3), FrameClocks.STATE);
        due("rates(1)", x.rates(1), 3);
        due("count(0)", x.count(0), 1);
        due("four were done", x.count(6), 4);
    }

    private static void wrapsByRates() {
        FrameClocks x = new FrameClocks();
        x.rates(2);
        x.lays(2591990, 5, 7);
        x.plays(240, 20, 0, 0);
        due("wheel ahead of rates", x.wheel(0), 2591994);
        x.offsets(1, -1000);
        for (int i = 0; i < 3; i++) {
            x.chases(1, 1000);
        }
        due("place ahead of rates", x.chaser(1, 0), 2591994 - 1000);
        x.offsets(1, 5);
        due("rates(0)", x.rates(0), 2);
        due("wheel by rate 0", x.wheel(0), 2591994 - 2073600);
        due("place by rate 0", x.chaser(1, 0), 2591994 - 1000 - 2073600);
        due("offset stays", x.chaser(1, 2), 5);
        due("streak stays", x.reader(7), 5);
        // the segment begins at 518390 now, which is 5:59:59 and 14 frames by 24
        due("f units", 8 * x.bit(3) + 4 * x.bit(2) + 2 * x.bit(1) + x.bit(0), 4);
        due("f tens", 2 * x.bit(5) + x.bit(4), 1);
        due("hours", 8 * x.bit(23) + 4 * x.bit(22) + 2 * x.bit(21) + x.bit(20), 5);
        due("head stays", x.count(4), 240);
        due("rates(2) back", x.rates(2), 0);
        due("wheel is not as it was", x.wheel(0), 518394);
        due("undo", x.undo(), 7);
        due("undo", x.undo(), 6);
        due("wheel is as it was", x.wheel(0), 2591994);
        due("place is as it was", x.chaser(1, 0), 2590994);
    }

    private static void segmentsWrapForGood() {
        FrameClocks x = new FrameClocks();
        x.rates(2);
        x.lays(2591990, 1, 0);
        x.lays(2160001, 2, 0);
        x.rates(1);
        x.rates(2);
        x.plays(48, 20, 0, 0);
        due("segment 0", x.reading(0), 2591990 - 2160000);
        x.plays(48, 20, 0, 0);
        due("segment 1", x.reading(0), 1);
        FrameClocks y = new FrameClocks();
        y.rates(2);
        y.lays(2591000, 3, 0);
        y.plays(144, 20, 0, 0);
        for (int c = 0; c < 3; c++) {
            y.chases(c, 20);
            due("place " + c, y.chaser(c, 0), 2592000 - 19 * 20 / 2 - 20);
        }
        y.rates(0);
        for (int c = 0; c < 3; c++) {
            due("place " + c + " by rate 0", y.chaser(c, 0), 2592000 - 19 * 20 / 2 - 20 - 2073600);
        }
    }

    private static void readingStaysByRates() {
        FrameClocks x = new FrameClocks();
        x.rates(2);
        x.lays(2591999, 1, 3);
        x.plays(48, 20, 0, 0);
        due("reading", x.reading(0), 2591999);
        x.rates(0);
        due("a reading's frame stays", x.reading(0), 2591999);
        due("a reading's number stays", x.reading(1), 23595929);
        // 2591999 and 1 is 518400 by the new day: that follows
        x.lays(518400, 1, 3);
        x.winds(48);
        x.plays(48, 20, 0, 0);
        due("read by the new rate", x.reading(0), 518400);
        due("it follows modulo the new day", x.reader(7), 2);
        due("no jump", x.reader(6), 0);
    }

    private static void numbers() {
        FrameClocks x = new FrameClocks();
        due("number(-1)", x.number(-1), FrameClocks.BAD);
        due("number(0)", x.number(0), 0);
        due("number(24)", x.number(24), 24);
        due("number(25)", x.number(25), 100);
        due("number(1500)", x.number(1500), 10000);
        due("number(90000)", x.number(90000), 1000000);
        due("number(2159999)", x.number(2159999), 23595924);
        due("number(2160000)", x.number(2160000), FrameClocks.BAD);
        due("number(max)", x.number(Integer.MAX_VALUE), FrameClocks.BAD);
        x.rates(0);
        due("24: number(2073599)", x.number(2073599), 23595923);
        due("24: number(2073600)", x.number(2073600), FrameClocks.BAD);
        x.rates(2);
        due("30: number(1800)", x.number(1800), 10000);
        due("30: number(2591999)", x.number(2591999), 23595929);
        due("30: number(2592000)", x.number(2592000), FrameClocks.BAD);
        x.rates(3);
        due("dropped: number(3597)", x.number(3597), 15929);
        due("dropped: number(3598)", x.number(3598), 20002);
        due("dropped: number(19781)", x.number(19781), 105929);
        due("dropped: number(19782)", x.number(19782), 110002);
        due("dropped: number(107892)", x.number(107892), 1000000);
        due("dropped: number(2589408)", x.number(2589408), FrameClocks.BAD);
    }

    private static void framesOfNumbers() {
        FrameClocks x = new FrameClocks();
        due("frame(-1)", x.frame(-1), FrameClocks.BAD);
        due("frame(-9)", x.frame(-9), FrameClocks.BAD);
        due("frame(0)", x.frame(0), 0);
        due("frame(23595999)", x.frame(23595999), FrameClocks.NONE);
        due("frame(23596000)", x.frame(23596000), FrameClocks.BAD);
        due("frame(23595924)", x.frame(23595924), 2159999);
        due("frame(25)", x.frame(25), FrameClocks.NONE);
        due("frame(6000)", x.frame(6000), FrameClocks.NONE);
        due("frame(5924)", x.frame(5924), 1499);
        due("frame(600000)", x.frame(600000), FrameClocks.NONE);
        due("frame(1000000)", x.frame(1000000), 90000);
        x.rates(3);
        due("dropped: frame(100001)", x.frame(100001), 17983);
        due("dropped: frame(110000)", x.frame(110000), FrameClocks.NONE);
        due("dropped: frame(110101)", x.frame(110101), 19782 + 29);
        due("dropped: frame(1000000)", x.frame(1000000), 107892);
    }

    /** Number after number as the document counts them, for each frame of a day by each rate. */
    private static void everyFrame() {
        int[] perSecond = {24, 25, 30, 30};
        for (int rate = 0; rate < 4; rate++) {
            int frame = 0;
            for (int second = 0; second < 86400; second++) {
                // no object is promised to answer more than 512 calls
                FrameClocks x = new FrameClocks();
                x.rates(rate);
                int minute = second / 60;
                for (int f = 0; f < perSecond[rate]; f++) {
                    int number = minute / 60 * 1000000 + minute % 60 * 10000 + second % 60 * 100 + f;
                    boolean left = rate == 3 && second % 60 == 0 && f < 2 && minute % 10 != 0;
                    if (x.frame(number) != (left ? FrameClocks.NONE : frame)) {
                        due(rate + ": frame(" + number + ")", x.frame(number), left ? FrameClocks.NONE : frame);
                        return;
                    }
                    if (!left) {
                        if (x.number(frame) != number) {
                            due(rate + ": number(" + frame + ")", x.number(frame), number);
                            return;
                        }
                        frame++;
                    }
                }
            }
            due("frames of a day by " + rate, frame, new int[] {2073600, 2160000, 2592000, 2589408}[rate]);
        }
    }

    private static void dropped() {
        FrameClocks x = new FrameClocks();
        due("25: dropped(0, 2159999)", x.dropped(0, 2159999), 0);
        due("25: dropped(2159999, 0)", x.dropped(2159999, 0), 0);
        due("25: dropped(0, 2160000)", x.dropped(0, 2160000), FrameClocks.BAD);
        x.rates(3);
        due("dropped(-1, 0)", x.dropped(-1, 0), FrameClocks.BAD);
        due("dropped(0, -1)", x.dropped(0, -1), FrameClocks.BAD);
        due("dropped(2589408, 0)", x.dropped(2589408, 0), FrameClocks.BAD);
        due("dropped(0, 2589408)", x.dropped(0, 2589408), FrameClocks.BAD);
        due("dropped(0, 2589407)", x.dropped(0, 2589407), 2592);
        due("dropped(2589407, 0)", x.dropped(2589407, 0), 0);
        due("dropped(1799, 1800)", x.dropped(1799, 1800), 2);
        due("dropped(1800, 1800)", x.dropped(1800, 1800), 0);
        due("dropped(1800, 1799)", x.dropped(1800, 1799), 2590);
        due("dropped(1801, 1800)", x.dropped(1801, 1800), 2592);
        due("dropped(1799, 3598)", x.dropped(1799, 3598), 4);
        due("dropped(16184, 17982)", x.dropped(16184, 17982), 0);
        due("dropped(0, 17982)", x.dropped(0, 17982), 18);
        due("asked changes nothing", x.count(6), 1);
    }
}
