import java.util.ArrayDeque;
import java.util.ArrayList;
import java.util.Arrays;
import java.util.Deque;
import java.util.List;

/** The document told once more, slowly: lists, texts of bits, tables of all numbers, copies of all for each call. */
final class Model {
    private static final int BAD = -1;
    private static final int STATE = -2;
    private static final int FULL = -3;
    private static final int NONE = -9;
    private static final int NO = -2147483647;
    private static final String SYNC = "0011111111111101";
    private static final int[][] NUMBERS = {numbers(24, false), numbers(25, false), numbers(30, false), numbers(30, true)};

    /** All that can be undone. */
    private static final class All {
        int rate = 1;
        List<int[]> segments = new ArrayList<>();
        int head = 0;
        int cell = 40;
        int waits = 0;
        String bits = "";
        int readings = 0;
        int broken = 0;
        int errors = 0;
        int jumps = 0;
        int streak = 0;
        /** FRAME, NUMBER, USER, way; null: none. */
        int[] latest = null;
        int wheel = 0;
        int course = 1;
        int missed = 0;
        int hold = 5;
        int[] place = new int[3];
        int[] speed = new int[3];
        int[] offset = new int[3];

        All copy() {
            All c = new All();
            c.rate = rate;
            for (int[] segment : segments) {
                c.segments.add(segment.clone());
            }
            c.head = head;
            c.cell = cell;
            c.waits = waits;
            c.bits = bits;
            c.readings = readings;
            c.broken = broken;
            c.errors = errors;
            c.jumps = jumps;
            c.streak = streak;
            c.latest = latest == null ? null : latest.clone();
            c.wheel = wheel;
            c.course = course;
            c.missed = missed;
            c.hold = hold;
            c.place = place.clone();
            c.speed = speed.clone();
            c.offset = offset.clone();
            return c;
        }
    }

    private All a = new All();
    private final Deque<All> undone = new ArrayDeque<>();
    private final All[] images = new All[2];
    private final List<int[]> seen = new ArrayList<>();

    private static int[] numbers(int perSecond, boolean drops) {
        List<Integer> list = new ArrayList<>();
        for (int h = 0; h < 24; h++) {
            for (int m = 0; m < 60; m++) {
                for (int s = 0; s < 60; s++) {
                    for (int f = 0; f < perSecond; f++) {
                        if (!(drops && s == 0 && f <= 1 && m % 10 != 0)) {
                            list.add(h * 1000000 + m * 10000 + s * 100 + f);
                        }
                    }
                }
            }
        }
        return list.stream().mapToInt(Integer::intValue).toArray();
    }

    private static int frameIn(int rate, int number) {
        int at = Arrays.binarySearch(NUMBERS[rate], number);
        return at < 0 ? NONE : at;
    }

    private int day() {
        return NUMBERS[a.rate].length;
    }

    private boolean in(int n, int low, int high) {
        return n >= low && n <= high;
    }

    private int mod(int frame) {
        int d = day();
        while (frame < 0) {
            frame += d;
        }
        while (frame >= d) {
            frame -= d;
        }
        return frame;
    }

    private void done() {
        undone.addLast(a.copy());
        if (undone.size() > 8) {
            undone.removeFirst();
        }
    }

    int rates(int r) {
        if (!in(r, 0, 3)) {
            return BAD;
        }
        if (r == a.rate) {
            return STATE;
        }
        done();
        int was = a.rate;
        a.rate = r;
        for (int[] segment : a.segments) {
            segment[0] = mod(segment[0]);
        }
        a.wheel = mod(a.wheel);
        for (int c = 0; c < 3; c++) {
            a.place[c] = mod(a.place[c]);
        }
        return was;
    }

    int number(int frame) {
        return in(frame, 0, day() - 1) ? NUMBERS[a.rate][frame] : BAD;
    }

    int frame(int number) {
        return in(number, 0, 23595999) ? frameIn(a.rate, number) : BAD;
    }

    int dropped(int from, int to) {
        if (!in(from, 0, day() - 1) || !in(to, 0, day() - 1)) {
            return BAD;
        }
        return untold(to) - untold(from) + (to < from ? 2592000 / 30 * perSecond() - day() : 0);
    }

    private int perSecond() {
        return new int[] {24, 25, 30, 30}[a.rate];
    }

    /** Numbers that would be told ahead of this frame's if none were left out, less the frames. */
    private int untold(int frame) {
        int n = NUMBERS[a.rate][frame];
        int seconds = n / 1000000 * 3600 + n / 10000 % 100 * 60 + n / 100 % 100;
        return seconds * perSecond() + n % 100 - frame;
    }

    int lays(int frame, int length, int user) {
        if (!in(frame, 0, day() - 1) || !in(length, 1, 40) || !in(user, 0, 15)) {
            return BAD;
        }
        if (a.segments.size() == 6) {
            return FULL;
        }
        done();
        a.segments.add(new int[] {frame, length, user});
        return a.segments.size();
    }

    private int total() {
        int sum = 0;
        for (int[] segment : a.segments) {
            sum += 48 * segment[1];
        }
        return sum;
    }

    private static String lowFirst(int value, int many) {
        StringBuilder text = new StringBuilder();
        for (int i = 0; i < many; i++) {
            text.append(value >> i & 1);
        }
        return text.toString();
    }

    private static int ones(String bits) {
        return (int) bits.chars().filter(c -> c == '1').count();
    }

    private String word(int frame, int user) {
        int n = NUMBERS[a.rate][frame];
        String ahead = lowFirst(n % 10, 4) + lowFirst(n / 10 % 10, 2) + lowFirst(n / 100 % 10, 4)
            + lowFirst(n / 1000 % 10, 3) + lowFirst(n / 10000 % 10, 4) + lowFirst(n / 100000 % 10, 3)
            + lowFirst(n / 1000000 % 10, 4) + lowFirst(n / 10000000, 2) + (a.rate == 3 ? "1" : "0");
        String behind = lowFirst(user, 4);
        return ahead + ones(ahead + behind) % 2 + behind + SYNC;
    }

    private String tape() {
        StringBuilder text = new StringBuilder();
        for (int[] segment : a.segments) {
            for (int i = 0; i < segment[1]; i++) {
                text.append(word(mod(segment[0] + i), segment[2]));
            }
        }
        return text.toString();
    }

    int winds(int h) {
        if (!in(h, 0, total())) {
            return BAD;
        }
        if (h == a.head) {
            return STATE;
        }
        done();
        int was = a.head;
        a.head = h;
        return was;
    }

    int bit(int h) {
        return in(h, 0, total() - 1) ? tape().charAt(h) - '0' : BAD;
    }

    int plays(int n, int u, int w, int back) {
        if (!in(n, 1, 4800) || !in(u, 1, 200) || !in(w, 0, 9) || !in(back, 0, 1)) {
            return BAD;
        }
        String tape = tape();
        String over = back == 0 ? tape.substring(a.head) : new StringBuilder(tape.substring(0, a.head)).reverse().toString();
        if (over.isEmpty()) {
            return STATE;
        }
        done();
        over = over.substring(0, Math.min(n, over.length()));
        for (int k = 0; k < over.length(); k++) {
            int half = u + ((k * w) % 5);
            if (over.charAt(k) == '0') {
                interval(half + half);
            } else {
                interval(half);
                interval(half);
            }
        }
        a.head += back == 0 ? over.length() : -over.length();
        return over.length();
    }

    private void interval(int d) {
        if (4 * d > 3 * a.cell) {
            if (a.waits != 0) {
                a.errors++;
                a.waits = 0;
            }
            a.cell = Math.max(1, (3 * a.cell + d) / 4);
            told("0");
        } else if (a.waits == 0) {
            a.waits = d;
        } else {
            a.cell = Math.max(1, (3 * a.cell + a.waits + d) / 4);
            a.waits = 0;
            told("1");
        }
    }

    private void told(String bit) {
        a.bits += bit;
        if (a.bits.length() > 48) {
            a.bits = a.bits.substring(1);
        }
        if (a.bits.length() < 48) {
            return;
        }
        String turned = new StringBuilder(a.bits).reverse().toString();
        if (a.bits.endsWith(SYNC)) {
            found(a.bits.substring(0, 32), 1);
        } else if (turned.endsWith(SYNC)) {
            found(turned.substring(0, 32), -1);
        }
    }

    private static int value(String bits, int from, int many) {
        return Integer.parseInt(new StringBuilder(bits.substring(from, from + many)).reverse().toString(), 2);
    }

    private void found(String bits, int way) {
        a.bits = "";
        int number = 0;
        boolean good = ones(bits) % 2 == 0 && bits.charAt(26) == (a.rate == 3 ? '1' : '0');
        int[][] parts = {{20, 4, 2}, {13, 4, 3}, {6, 4, 3}, {0, 4, 2}};
        for (int[] part : parts) {
            int units = value(bits, part[0], part[1]);
            good = good && units <= 9;
            number = number * 100 + 10 * value(bits, part[0] + 4, part[2]) + units;
        }
        if (!good || frameIn(a.rate, number) == NONE) {
            a.broken++;
            return;
        }
        int x = frameIn(a.rate, number);
        boolean follows = a.latest != null && mod(a.latest[0] + way) == x;
        if (a.latest != null && !follows) {
            a.jumps++;
        }
        a.streak = follows ? a.streak + 1 : 1;
        a.readings++;
        a.latest = new int[] {x, number, value(bits, 28, 4), way};
        if (a.streak >= 3) {
            a.wheel = x;
            a.course = way;
            a.missed = 0;
        }
    }

    int edge(int d) {
        if (!in(d, 1, 9999)) {
            return BAD;
        }
        done();
        interval(d);
        return a.bits.length();
    }

    int begins() {
        done();
        int were = a.readings;
        a.cell = 40;
        a.waits = 0;
        a.bits = "";
        a.streak = 0;
        a.latest = null;
        a.readings = 0;
        a.broken = 0;
        a.errors = 0;
        a.jumps = 0;
        return were;
    }

    int reader(int what) {
        int[] all = {a.cell, a.waits, a.bits.length(), a.readings, a.broken, a.errors, a.jumps, a.streak};
        return in(what, 0, 7) ? all[what] : BAD;
    }

    int reading(int what) {
        if (!in(what, 0, 3)) {
            return NO;
        }
        return a.latest == null ? NONE : a.latest[what];
    }

    int misses() {
        done();
        if (a.streak >= 3 && a.missed < a.hold) {
            a.missed++;
            a.wheel = mod(a.wheel + a.course);
        } else {
            a.streak = 0;
        }
        return a.wheel;
    }

    int holds(int n) {
        if (!in(n, 0, 99)) {
            return BAD;
        }
        if (n == a.hold) {
            return STATE;
        }
        done();
        int was = a.hold;
        a.hold = n;
        return was;
    }

    int wheel(int what) {
        int[] all = {a.wheel, a.course, a.missed, a.hold, a.streak >= 3 ? 1 : 0};
        return in(what, 0, 4) ? all[what] : NO;
    }

    int offsets(int c, int n) {
        if (!in(c, 0, 2) || !in(n, -99999, 99999)) {
            return BAD;
        }
        if (n == a.offset[c]) {
            return STATE;
        }
        done();
        a.offset[c] = n;
        return 1;
    }

    private int way(All of, int c) {
        int forward = mod(of.wheel + of.offset[c] - of.place[c]);
        int backward = mod(of.place[c] - of.wheel - of.offset[c]);
        return forward <= backward ? forward : -backward;
    }

    private void step(All of, int c) {
        int way = way(of, c);
        int wanted = 99;
        while (wanted * (wanted + 1) / 2 > Math.abs(way)) {
            wanted--;
        }
        if (way < 0) {
            wanted = -wanted;
        }
        int best = of.speed[c];
        for (int tried = of.speed[c] - 1; tried <= of.speed[c] + 1; tried++) {
            if (Math.abs(tried - wanted) < Math.abs(best - wanted)) {
                best = tried;
            }
        }
        of.speed[c] = best;
        of.place[c] = mod(of.place[c] + best);
    }

    int chases(int c, int n) {
        if (!in(c, 0, 2) || !in(n, 1, 1000)) {
            return BAD;
        }
        done();
        for (int i = 0; i < n; i++) {
            step(a, c);
        }
        return a.place[c];
    }

    int chaser(int c, int what) {
        if (!in(c, 0, 2) || !in(what, 0, 3)) {
            return NO;
        }
        return new int[] {a.place[c], a.speed[c], a.offset[c], way(a, c)}[what];
    }

    int there(int c) {
        if (!in(c, 0, 2)) {
            return BAD;
        }
        All trial = a.copy();
        int steps = 0;
        while (!(way(trial, c) == 0 && trial.speed[c] == 0)) {
            step(trial, c);
            steps++;
            if (steps > 3000) {
                return NONE;
            }
        }
        return steps;
    }

    int undo() {
        if (undone.isEmpty()) {
            return STATE;
        }
        a = undone.removeLast();
        return undone.size();
    }

    int sees(int number, int frame) {
        if (!in(number, 0, 23595999) || (frame != NONE && frame < 0)) {
            return BAD;
        }
        if (seen.size() == 6) {
            return FULL;
        }
        seen.add(new int[] {number, frame});
        return seen.size();
    }

    int forget() {
        int was = seen.size();
        seen.clear();
        return was;
    }

    int unseen() {
        int bits = 15;
        for (int[] sight : seen) {
            for (int rate = 0; rate < 4; rate++) {
                if (frameIn(rate, sight[0]) != sight[1]) {
                    bits &= ~(1 << rate);
                }
            }
        }
        return bits;
    }

    int keep(int image) {
        if (!in(image, 0, 1)) {
            return BAD;
        }
        images[image] = a.copy();
        return a.segments.size();
    }

    int back(int image) {
        if (!in(image, 0, 1)) {
            return BAD;
        }
        if (images[image] == null) {
            return STATE;
        }
        a = images[image].copy();
        undone.clear();
        return a.segments.size();
    }

    int count(int what) {
        int[] all = {a.rate, day(), a.segments.size(), total(), a.head, seen.size(), undone.size()};
        return in(what, 0, 6) ? all[what] : BAD;
    }
}
