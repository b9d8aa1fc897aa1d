/** Time code on tape and wire. The promises that the methods keep are numbered in ../shared/DOC.md. */
public final class FrameClocks {
    public static final int BAD = -1, STATE = -2, FULL = -3, NONE = -9;
    public static final int NO = -2147483647;

    private static final int HIGHEST_NUMBER = 23595999;
    private static final int MOST_SEEN = 6;

    private final State now = new State();
    private final History history = new History();
    private final State[] images = new State[2];
    private final Chaser probe = new Chaser();
    private final int[] seenNumbers = new int[MOST_SEEN];
    private final int[] seenFrames = new int[MOST_SEEN];
    private int seen;

    public FrameClocks() {
    }

    // ---- frames and numbers

    public int rates(int r) {
        if (r < 0 || r >= Rates.MANY) {
            return BAD;
        }
        if (r == now.rate) {
            return STATE;
        }
        history.add(now);
        int was = now.rate;
        now.turnTo(r);
        return was;
    }

    public int number(int frame) {
        return isFrame(frame) ? Rates.numberOf(now.rate, frame) : BAD;
    }

    public int frame(int number) {
        return isNumber(number) ? Rates.frameOf(now.rate, number) : BAD;
    }

    public int dropped(int a, int b) {
        if (!isFrame(a) || !isFrame(b)) {
            return BAD;
        }
        int between = Rates.leftOutUpTo(now.rate, b) - Rates.leftOutUpTo(now.rate, a);
        return b < a ? between + Rates.leftOutInDay(now.rate) : between;
    }

    // ---- the tape

    public int lays(int frame, int length, int user) {
        if (!isFrame(frame) || length < 1 || length > Tape.LONGEST || user < 0 || user > 15) {
            return BAD;
        }
        if (now.tape.segments >= Tape.MOST) {
            return FULL;
        }
        history.add(now);
        now.tape.append(frame, length, user);
        return now.tape.segments;
    }

    public int winds(int h) {
        if (h < 0 || h > now.tape.bitsInAll()) {
            return BAD;
        }
        if (h == now.tape.head) {
            return STATE;
        }
        history.add(now);
        int was = now.tape.head;
        now.tape.head = h;
        return was;
    }

    public int bit(int h) {
        if (h < 0 || h >= now.tape.bitsInAll()) {
            return BAD;
        }
        return Words.bitOf(now.tape.wordAt(h / Words.BITS, now.rate), h % Words.BITS);
    }

    public int plays(int n, int u, int w, int back) {
        if (n < 1 || n > 4800 || u < 1 || u > 200 || w < 0 || w > 9 || back < 0 || back > 1) {
            return BAD;
        }
        int left = back == 1 ? now.tape.head : now.tape.bitsInAll() - now.tape.head;
        if (left < 1) {
            return STATE;
        }
        history.add(now);
        int many = Math.min(n, left);
        now.play(many, u, w, back == 1);
        return many;
    }

    // ---- the reader

    public int edge(int d) {
        if (d < 1 || d > 9999) {
            return BAD;
        }
        history.add(now);
        now.hear(d);
        return now.reader.held;
    }

    public int begins() {
        history.add(now);
        int were = now.reader.readings;
        now.reader.startAnew();
        return were;
    }

    public int reader(int what) {
        Reader reader = now.reader;
        switch (what) {
            case 0: return reader.cell;
            case 1: return reader.waits;
            case 2: return reader.held;
            case 3: return reader.readings;
            case 4: return reader.broken;
            case 5: return reader.errors;
            case 6: return reader.jumps;
            case 7: return reader.streak;
            default: return BAD;
        }
    }

    public int reading(int what) {
        Reader reader = now.reader;
        if (what < 0 || what > 3) {
            return NO;
        }
        if (!reader.hasRead()) {
            return NONE;
        }
        switch (what) {
            case 0: return reader.frame;
            case 1: return reader.number;
            case 2: return reader.user;
            default: return reader.course;
        }
    }

    // ---- the wheel

    public int misses() {
        history.add(now);
        now.miss();
        return now.wheel.frame;
    }

    public int holds(int n) {
        if (n < 0 || n > 99) {
            return BAD;
        }
        if (n == now.wheel.hold) {
            return STATE;
        }
        history.add(now);
        int was = now.wheel.hold;
        now.wheel.hold = n;
        return was;
    }

    public int wheel(int what) {
        Wheel wheel = now.wheel;
        switch (what) {
            case 0: return wheel.frame;
            case 1: return wheel.course;
            case 2: return wheel.missed;
            case 3: return wheel.hold;
            case 4: return now.reader.isLocked() ? 1 : 0;
            default: return NO;
        }
    }

    // ---- chasers

    public int offsets(int c, int n) {
        Chaser chaser = now.chaserOf(c);
        if (chaser == null || n < -99999 || n > 99999) {
            return BAD;
        }
        if (n == chaser.offset) {
            return STATE;
        }
        history.add(now);
        chaser.offset = n;
        return 1;
    }

    public int chases(int c, int n) {
        Chaser chaser = now.chaserOf(c);
        if (chaser == null || n < 1 || n > 1000) {
            return BAD;
        }
        history.add(now);
        for (int i = 0; i < n; i++) {
            chaser.step(now.wheel.frame, now.day());
        }
        return chaser.place;
    }

    public int chaser(int c, int what) {
        Chaser chaser = now.chaserOf(c);
        if (chaser == null) {
            return NO;
        }
        switch (what) {
            case 0: return chaser.place;
            case 1: return chaser.speed;
            case 2: return chaser.offset;
            case 3: return chaser.wayTo(now.wheel.frame, now.day());
            default: return NO;
        }
    }

    public int there(int c) {
        Chaser chaser = now.chaserOf(c);
        if (chaser == null) {
            return BAD;
        }
        probe.copy(chaser);
        for (int steps = 0; steps <= 3000; steps++) {
            if (probe.isAt(now.wheel.frame, now.day())) {
                return steps;
            }
            probe.step(now.wheel.frame, now.day());
        }
        return NONE;
    }

    // ---- undone, which rate, images

    public int undo() {
        return history.takeBack(now) ? history.known : STATE;
    }

    public int sees(int number, int frame) {
        if (!isNumber(number) || (frame < 0 && frame != NONE)) {
            return BAD;
        }
        if (seen < 0 || seen >= MOST_SEEN) {
            return FULL;
        }
        seenNumbers[seen] = number;
        seenFrames[seen] = frame;
        seen++;
        return seen;
    }

    public int forget() {
        int was = seen;
        seen = 0;
        return was;
    }

    public int unseen() {
        int bits = 0;
        for (int rate = 0; rate < Rates.MANY; rate++) {
            if (agrees(rate)) {
                bits |= 1 << rate;
            }
        }
        return bits;
    }

    public int keep(int image) {
        if (image < 0 || image >= images.length) {
            return BAD;
        }
        State kept = images[image];
        if (kept == null) {
            kept = new State();
            images[image] = kept;
        }
        kept.copy(now);
        return now.tape.segments;
    }

    public int back(int image) {
        if (image < 0 || image >= images.length) {
            return BAD;
        }
        State kept = images[image];
        if (kept == null) {
            return STATE;
        }
        now.copy(kept);
        history.known = 0;
        return now.tape.segments;
    }

    public int count(int what) {
        switch (what) {
            case 0: return now.rate;
            case 1: return now.day();
            case 2: return now.tape.segments;
            case 3: return now.tape.bitsInAll();
            case 4: return now.tape.head;
            case 5: return seen;
            case 6: return history.known;
            default: return BAD;
        }
    }

    private boolean isFrame(int frame) {
        return frame >= 0 && frame < now.day();
    }

    private static boolean isNumber(int number) {
        return number >= 0 && number <= HIGHEST_NUMBER;
    }

    private boolean agrees(int rate) {
        for (int i = 0; i < seen && i < MOST_SEEN; i++) {
            if (Rates.frameOf(rate, seenNumbers[i]) != seenFrames[i]) {
                return false;
            }
        }
        return true;
    }

    /** Frames of a day and their numbers, by each rate. */
    private static final class Rates {
        static final int MANY = 4;
        static final int DROPPING = 3;

        private static final int IN_TEN_MINUTES = 17982;
        private static final int IN_FULL_MINUTE = 1800;
        private static final int IN_SHORT_MINUTE = 1798;

        static int framesASecond(int rate) {
            switch (rate) {
                case 0: return 24;
                case 1: return 25;
                default: return 30;
            }
        }

        static int dayOf(int rate) {
            switch (rate) {
                case 0: return 2073600;
                case 1: return 2160000;
                case 2: return 2592000;
                default: return 2589408;
            }
        }

        static int leftOutInDay(int rate) {
            return rate == DROPPING ? 2592 : 0;
        }

        /** How many numbers are left out from frame 0's to this one's. */
        static int leftOutUpTo(int rate, int frame) {
            if (rate != DROPPING) {
                return 0;
            }
            int tens = frame / IN_TEN_MINUTES;
            int rest = frame % IN_TEN_MINUTES;
            // only the first of ten minutes keeps all its numbers
            int shortOnes = rest < IN_FULL_MINUTE ? 0 : (rest - IN_FULL_MINUTE) / IN_SHORT_MINUTE + 1;
            return 18 * tens + 2 * shortOnes;
        }

        static int numberOf(int rate, int frame) {
            int aSecond = framesASecond(rate);
            int told = frame + leftOutUpTo(rate, frame);
            int seconds = told / aSecond;
            int minutes = seconds / 60;
            return minutes / 60 * 1000000 + minutes % 60 * 10000 + seconds % 60 * 100 + told % aSecond;
        }

        static int frameOf(int rate, int number) {
            int aSecond = framesASecond(rate);
            int f = number % 100;
            int seconds = number / 100 % 100;
            int minutes = number / 10000 % 100;
            int hours = number / 1000000;
            if (number < 0 || f >= aSecond || seconds > 59 || minutes > 59 || hours > 23) {
                return NONE;
            }
            int minute = 60 * hours + minutes;
            int told = (60 * minute + seconds) * aSecond + f;
            if (rate != DROPPING) {
                return told;
            }
            if (minute % 10 != 0 && seconds == 0 && f < 2) {
                return NONE;
            }
            return told - 2 * (minute - minute / 10);
        }
    }

    /** Words of frames: a long has BIT i of the word as its bit i. */
    private static final class Words {
        static final int BITS = 48;
        static final int DATA_BITS = 32;
        static final int SYNC_BITS = 16;
        static final long DATA = 0xFFFFFFFFL;
        static final long SYNC_MASK = 0xFFFFL;
        /** As BITS 32 to 47 of a word have it, the first one lowest. */
        static final long SYNC = 0xBFFCL;
        /** As it comes from a tape that is played backward, the first one lowest. */
        static final long SYNC_TURNED = 0x3FFDL;

        static int bitOf(long word, int i) {
            return (int) (word >>> i) & 1;
        }

        static long wordOf(int rate, int frame, int user) {
            int number = Rates.numberOf(rate, frame);
            int data = digits(number % 100)
                | digits(number / 100 % 100) << 6
                | digits(number / 10000 % 100) << 13
                | digits(number / 1000000) << 20
                | (rate == Rates.DROPPING ? 1 << 26 : 0)
                | user << 28;
            int even = Integer.bitCount(data) % 2;
            return (data | even << 27) & DATA | SYNC << DATA_BITS;
        }

        private static int digits(int two) {
            return two % 10 | two / 10 << 4;
        }

        /** The number that BITS 0 to 31 tell, whether a frame has it or not; NONE: they are broken. */
        static int numberIn(long data, int rate) {
            int bits = (int) data;
            int f = bits & 15;
            int seconds = bits >>> 6 & 15;
            int minutes = bits >>> 13 & 15;
            int hours = bits >>> 20 & 15;
            if (Integer.bitCount(bits) % 2 != 0 || f > 9 || seconds > 9 || minutes > 9 || hours > 9) {
                return NONE;
            }
            if ((bits >>> 26 & 1) != (rate == Rates.DROPPING ? 1 : 0)) {
                return NONE;
            }
            f += 10 * (bits >>> 4 & 3);
            seconds += 10 * (bits >>> 10 & 7);
            minutes += 10 * (bits >>> 17 & 7);
            hours += 10 * (bits >>> 24 & 3);
            return 1000000 * hours + 10000 * minutes + 100 * seconds + f;
        }

        static int userIn(long data) {
            return (int) (data >>> 28) & 15;
        }

        /** The 32 bits in the other order. */
        static long turned(long data) {
            long other = 0;
            for (int i = 0; i < DATA_BITS; i++) {
                other = other << 1 | data >>> i & 1;
            }
            return other;
        }
    }

    /** Segments one behind the other, and where the head stands. */
    private static final class Tape {
        static final int MOST = 6;
        static final int LONGEST = 40;

        final int[] first = new int[MOST];
        final int[] length = new int[MOST];
        final int[] user = new int[MOST];
        int segments;
        int words;
        int head;

        int bitsInAll() {
            return Words.BITS * words;
        }

        void append(int frame, int frames, int userBits) {
            if (segments < 0 || segments >= MOST) {
                return;
            }
            first[segments] = frame;
            length[segments] = frames;
            user[segments] = userBits;
            segments++;
            words += frames;
        }

        long wordAt(int place, int rate) {
            int rest = place;
            for (int i = 0; i < segments && i < MOST; i++) {
                if (rest < length[i]) {
                    return Words.wordOf(rate, Math.floorMod(first[i] + rest, Rates.dayOf(rate)), user[i]);
                }
                rest -= length[i];
            }
            return 0;
        }

        void wrap(int day) {
            for (int i = 0; i < segments && i < MOST; i++) {
                first[i] = Math.floorMod(first[i], day);
            }
        }

        void copy(Tape other) {
            System.arraycopy(other.first, 0, first, 0, MOST);
            System.arraycopy(other.length, 0, length, 0, MOST);
            System.arraycopy(other.user, 0, user, 0, MOST);
            segments = other.segments;
            words = other.words;
            head = other.head;
        }
    }

    /** Tells bits from intervals, finds words among the bits. */
    private static final class Reader {
        private static final int FIRST_CELL = 40;
        private static final int LOCK = 3;

        int cell = FIRST_CELL;
        int waits;
        /** The newest as bit 47, the one told ahead of it as bit 46, and so on. */
        long bits;
        int held;
        int readings;
        int broken;
        int errors;
        int jumps;
        int streak;
        int frame;
        int number;
        int user;
        int course;

        boolean isLocked() {
            return streak >= LOCK;
        }

        boolean hasRead() {
            return readings > 0;
        }

        /** Takes an interval: 1 or -1 if the bits held are now a word forward or backward, else 0. */
        int take(int d) {
            if (4 * d > 3 * cell) {
                if (waits > 0) {
                    waits = 0;
                    errors++;
                }
                adapt(d);
                return tell(0);
            }
            if (waits == 0) {
                waits = d;
                return 0;
            }
            adapt(waits + d);
            waits = 0;
            return tell(1);
        }

        private void adapt(int whole) {
            cell = Math.max(1, (3 * cell + whole) / 4);
        }

        private int tell(long bit) {
            bits = bits >>> 1 | bit << Words.BITS - 1;
            held = Math.min(held + 1, Words.BITS);
            if (held < Words.BITS) {
                return 0;
            }
            if (bits >>> Words.DATA_BITS == Words.SYNC) {
                return 1;
            }
            return (bits & Words.SYNC_MASK) == Words.SYNC_TURNED ? -1 : 0;
        }

        /** Lets go the word that was found, the one way or the other: whether it is a reading. */
        boolean accept(int way, int rate) {
            long data = way == 1 ? bits & Words.DATA : Words.turned(bits >>> Words.SYNC_BITS);
            letGo();
            int told = Words.numberIn(data, rate);
            int x = Rates.frameOf(rate, told);
            if (x == NONE) {
                broken++;
                return false;
            }
            follow(x, way, Rates.dayOf(rate));
            readings++;
            frame = x;
            number = told;
            user = Words.userIn(data);
            course = way;
            return true;
        }

        private void follow(int x, int way, int day) {
            boolean follows = hasRead() && x == Math.floorMod(frame + way, day);
            if (hasRead() && !follows) {
                jumps++;
            }
            streak = follows ? streak + 1 : 1;
        }

        private void letGo() {
            bits = 0;
            held = 0;
        }

        void startAnew() {
            letGo();
            cell = FIRST_CELL;
            waits = 0;
            readings = 0;
            broken = 0;
            errors = 0;
            jumps = 0;
            streak = 0;
        }

        void copy(Reader other) {
            cell = other.cell;
            waits = other.waits;
            bits = other.bits;
            held = other.held;
            readings = other.readings;
            broken = other.broken;
            errors = other.errors;
            jumps = other.jumps;
            streak = other.streak;
            frame = other.frame;
            number = other.number;
            user = other.user;
            course = other.course;
        }
    }

    /** Goes on where readings are missing. */
    private static final class Wheel {
        int frame;
        int course = 1;
        int missed;
        int hold = 5;

        void standAt(int x, int way) {
            frame = x;
            course = way;
            missed = 0;
        }

        /** Goes on without a reading: whether it may. */
        boolean coast(int day) {
            if (missed >= hold) {
                return false;
            }
            missed++;
            frame = Math.floorMod(frame + course, day);
            return true;
        }

        void copy(Wheel other) {
            frame = other.frame;
            course = other.course;
            missed = other.missed;
            hold = other.hold;
        }
    }

    /** A machine that goes after the wheel. */
    private static final class Chaser {
        private static final int FASTEST = 99;

        int place;
        int speed;
        int offset;

        int wayTo(int wheel, int day) {
            int forward = Math.floorMod(wheel + offset - place, day);
            return 2 * forward > day ? forward - day : forward;
        }

        boolean isAt(int wheel, int day) {
            return speed == 0 && wayTo(wheel, day) == 0;
        }

        void step(int wheel, int day) {
            int wanted = wantedFor(wayTo(wheel, day));
            speed += Integer.compare(wanted, speed);
            place = Math.floorMod(place + speed, day);
        }

        /** The greatest k is found by halves, as there() may take 3000 steps. */
        private static int wantedFor(int way) {
            int size = Math.abs(way);
            int k = 0;
            for (int more = 64; more > 0; more /= 2) {
                int tried = k + more;
                if (tried <= FASTEST && tried * (tried + 1) / 2 <= size) {
                    k = tried;
                }
            }
            return way < 0 ? -k : k;
        }

        void copy(Chaser other) {
            place = other.place;
            speed = other.speed;
            offset = other.offset;
        }
    }

    /** All that can be undone and kept in an image. */
    private static final class State {
        int rate = 1;
        final Tape tape = new Tape();
        final Reader reader = new Reader();
        final Wheel wheel = new Wheel();
        private final Chaser chaser0 = new Chaser();
        private final Chaser chaser1 = new Chaser();
        private final Chaser chaser2 = new Chaser();

        int day() {
            return Rates.dayOf(rate);
        }

        /** null: there is no such chaser. */
        Chaser chaserOf(int c) {
            switch (c) {
                case 0: return chaser0;
                case 1: return chaser1;
                case 2: return chaser2;
                default: return null;
            }
        }

        void turnTo(int newRate) {
            rate = newRate;
            int day = day();
            tape.wrap(day);
            wheel.frame = Math.floorMod(wheel.frame, day);
            chaser0.place = Math.floorMod(chaser0.place, day);
            chaser1.place = Math.floorMod(chaser1.place, day);
            chaser2.place = Math.floorMod(chaser2.place, day);
        }

        void play(int many, int u, int w, boolean backward) {
            int place = -1;
            long word = 0;
            for (int k = 0; k < many; k++) {
                int h = backward ? tape.head - 1 : tape.head;
                if (h / Words.BITS != place) {
                    place = h / Words.BITS;
                    word = tape.wordAt(place, rate);
                }
                int half = u + k * w % 5;
                if (Words.bitOf(word, h % Words.BITS) == 0) {
                    hear(2 * half);
                } else {
                    hear(half);
                    hear(half);
                }
                tape.head = backward ? h : h + 1;
            }
        }

        void hear(int d) {
            int way = reader.take(d);
            if (way != 0 && reader.accept(way, rate) && reader.isLocked()) {
                wheel.standAt(reader.frame, reader.course);
            }
        }

        void miss() {
            if (!reader.isLocked() || !wheel.coast(day())) {
                reader.streak = 0;
            }
        }

        void copy(State other) {
            rate = other.rate;
            tape.copy(other.tape);
            reader.copy(other.reader);
            wheel.copy(other.wheel);
            chaser0.copy(other.chaser0);
            chaser1.copy(other.chaser1);
            chaser2.copy(other.chaser2);
        }
    }

    /** The states ahead of the latest calls, in a ring that is used again and again. */
    private static final class History {
        private static final int MOST = 8;

        private final State[] ring = new State[MOST];
        private int next;
        int known;

        void add(State state) {
            int slot = Math.floorMod(next, MOST);
            State kept = ring[slot];
            if (kept == null) {
                kept = new State();
                ring[slot] = kept;
            }
            kept.copy(state);
            next = slot + 1;
            known = Math.min(known + 1, MOST);
        }

        /** Puts the latest back into the state: false if none is known. */
        boolean takeBack(State state) {
            int slot = Math.floorMod(next - 1, MOST);
            State kept = ring[slot];
            if (known < 1 || kept == null) {
                return false;
            }
            state.copy(kept);
            next = slot;
            known--;
            return true;
        }
    }
}
