import java.util.ArrayDeque;
import java.util.ArrayList;
import java.util.Deque;
import java.util.List;
import java.util.NoSuchElementException;
import java.util.function.IntConsumer;
import java.util.function.IntSupplier;
import java.util.function.LongConsumer;

/**
 * The document told a second time, in another way than in LoneWire: each US of a SLOT is looked at by itself,
 * each hold is kept for good, and a DEVICE has a plan of steps. Slow; only RunsAgainstModelTest uses it.
 */
final class Model {
    static final int NONE = -1;

    /** One bit's worth of what a DEVICE is going to do: it tells (bit) or listens (taken). */
    private static final class Step {
        final IntSupplier bit;
        final IntConsumer then;

        Step(IntSupplier bit, IntConsumer then) {
            this.bit = bit;
            this.then = then;
        }
    }

    private static final class Hold {
        final Dev owner;
        final long from;
        final long to;

        Hold(Dev owner, long from, long to) {
            this.owner = owner;
            this.from = from;
            this.to = to;
        }
    }

    private final class Dev {
        int family;
        int serial;
        int slow;
        int fast;
        boolean fed;
        boolean[] address = new boolean[64];
        int speed;
        int charge = 2000;
        boolean dead;
        boolean mine;
        boolean alarm;
        long busyTo = -1;
        Deque<Step> plan = new ArrayDeque<>();
        // THERMOMETER
        int outside = 320;
        int heat = 1360;
        int high = 75;
        int low = 70;
        int fine = 3;
        int[] saved = {75, 70, 3};
        int left;
        // SWITCH
        boolean[] pins = new boolean[2];
        boolean[] outputs = new boolean[2];
        // MEMORY
        int[] bytes = new int[16];
        int target;
        int[] pad = new int[4];
        // COUNTER
        int pulses;
        int limit;
        // of a SLOT
        boolean sees;
        boolean isReset;
        int took;
        boolean wasDead;

        int clock() {
            return speed == 0 ? slow : fast;
        }

        void deaf() {
            plan.clear();
        }

        void tell(IntSupplier bit, Runnable then) {
            plan.add(new Step(bit, v -> {
                if (then != null) {
                    then.run();
                }
            }));
        }

        void listen(IntConsumer then) {
            plan.add(new Step(null, then));
        }

        void tellBits(List<Boolean> bits) {
            for (boolean b : bits) {
                tell(() -> b ? 1 : 0, null);
            }
        }

        void tellByte(int v) {
            tellBits(bitsOf(v, 8));
        }

        void listenBits(int n, LongConsumer then) {
            long[] sum = new long[1];
            for (int i = 0; i < n; i++) {
                int at = i;
                listen(b -> {
                    sum[0] += b == 1 ? 1L << at : 0;
                    if (at == n - 1) {
                        then.accept(sum[0]);
                    }
                });
            }
        }

        void tellForEver(IntSupplier bit) {
            tell(bit, () -> tellForEver(bit));
        }

        void beReset() {
            deaf();
            listenBits(8, v -> command((int) v));
        }

        void chosen() {
            deaf();
            listenBits(8, v -> {
                switch (family) {
                    case 40 -> thermometer((int) v);
                    case 58 -> pressed((int) v);
                    case 35 -> memory((int) v);
                    default -> counter((int) v);
                }
            });
        }

        void match() {
            for (int i = 0; i < 64; i++) {
                int at = i;
                listen(b -> {
                    if (b == 1 != address[at]) {
                        deaf();
                    } else if (at == 63) {
                        mine = true;
                        chosen();
                    }
                });
            }
        }

        void searched(int at) {
            tell(() -> address[at] ? 1 : 0, null);
            tell(() -> address[at] ? 0 : 1, null);
            listen(b -> {
                if (b == 1 != address[at]) {
                    deaf();
                } else if (at == 63) {
                    mine = true;
                    chosen();
                } else {
                    searched(at + 1);
                }
            });
        }

        void command(int c) {
            boolean was = mine;
            if (c != 165) {
                mine = false;
            }
            switch (c) {
                case 51 -> {
                    for (boolean b : address) {
                        tell(() -> b ? 1 : 0, null);
                    }
                }
                case 85 -> match();
                case 204 -> chosen();
                case 240 -> searched(0);
                case 236 -> {
                    if (alarm) {
                        searched(0);
                    }
                }
                case 60 -> {
                    if (fast > 0) {
                        speed = 1;
                        chosen();
                    }
                }
                case 105 -> {
                    if (fast > 0) {
                        speed = 1;
                        match();
                    }
                }
                case 165 -> {
                    if (was) {
                        chosen();
                    }
                }
                default -> { }
            }
        }

        void thermometer(int c) {
            switch (c) {
                case 68 -> {
                    left = 900 * (int) Math.pow(2, fine);
                    tellForEver(() -> left > 0 && !fed ? 0 : 1);
                }
                case 190 -> {
                    List<Boolean> all = new ArrayList<>();
                    all.addAll(bitsOf(heat, 16));
                    all.addAll(bitsOf(high, 8));
                    all.addAll(bitsOf(low, 8));
                    all.addAll(bitsOf(31 + 32 * fine, 8));
                    all.addAll(bitsOf(sum(all), 8));
                    tellBits(all);
                }
                case 78 -> listenBits(24, v -> {
                    high = (byte) (v % 256);
                    low = (byte) (v / 256 % 256);
                    fine = (int) (v / 65536 / 32 % 4);
                });
                case 72 -> saved = new int[] {high, low, fine};
                case 184 -> recall();
                case 180 -> tellForEver(() -> fed ? 0 : 1);
                default -> { }
            }
        }

        void recall() {
            high = saved[0];
            low = saved[1];
            fine = saved[2];
        }

        void pressed(int c) {
            if (c == 245) {
                alarm = false;
                statusAgain();
            } else if (c == 90) {
                listenBits(16, v -> {
                    int lower = (int) v % 256;
                    int upper = (int) v / 256;
                    if (lower + upper == 255) {
                        outputs[0] = lower % 2 == 1;
                        outputs[1] = lower / 2 % 2 == 1;
                        tellByte(170);
                    }
                });
            }
        }

        void statusAgain() {
            boolean[] now = new boolean[8];
            for (int i = 0; i < 8; i++) {
                int at = i;
                tell(() -> {
                    if (at == 0) {
                        boolean[] four = {pins[0], outputs[0], pins[1], outputs[1]};
                        for (int j = 0; j < 4; j++) {
                            now[j] = four[j];
                            now[j + 4] = !four[j];
                        }
                    }
                    return now[at] ? 1 : 0;
                }, at == 7 ? this::statusAgain : null);
            }
        }

        void memory(int c) {
            switch (c) {
                case 15 -> listenBits(40, v -> {
                    target = (int) (v % 16);
                    for (int i = 0; i < 4; i++) {
                        pad[i] = (int) (v >> 8 + 8 * i) & 255;
                    }
                    tellByte(sum(bitsOf(v, 40)));
                });
                case 170 -> {
                    List<Boolean> all = new ArrayList<>(bitsOf(target, 8));
                    for (int p : pad) {
                        all.addAll(bitsOf(p, 8));
                    }
                    all.addAll(bitsOf(sum(all), 8));
                    tellBits(all);
                }
                case 85 -> listenBits(8, v -> {
                    if (v == target) {
                        for (int i = 0; i < 4; i++) {
                            bytes[(target + i) % 16] = pad[i];
                        }
                        tellByte(170);
                    }
                });
                case 240 -> listenBits(8, v -> {
                    List<Boolean> all = new ArrayList<>();
                    for (int i = 0; i < 4; i++) {
                        all.addAll(bitsOf(bytes[(int) (v + i) % 16], 8));
                    }
                    all.addAll(bitsOf(sum(all), 8));
                    tellBits(all);
                });
                default -> { }
            }
        }

        void counter(int c) {
            switch (c) {
                case 66 -> {
                    List<Boolean> all = new ArrayList<>(bitsOf(pulses, 32));
                    all.addAll(bitsOf(sum(all), 8));
                    tellBits(all);
                }
                case 77 -> listenBits(32, v -> limit = (int) (v % (1L << 31)));
                case 83 -> {
                    pulses = 0;
                    alarm = false;
                }
                default -> { }
            }
        }

        void die() {
            dead = true;
            wasDead = true;
            deadCount++;
            left = 0;
            heat = 1360;
            recall();
            outputs = new boolean[2];
            target = 0;
            pad = new int[4];
            pulses = 0;
            limit = 0;
            mine = false;
            speed = 0;
            alarm = false;
            deaf();
            gone.add(this);
        }
    }

    private final Dev[] devs = new Dev[8];
    private final List<Hold> holds = new ArrayList<>();
    private final List<Dev> gone = new ArrayList<>();
    private final List<int[]> slots = new ArrayList<>();
    private final int[][] times = {{6, 60, 6, 14, 95, 480, 75, 420}, {1, 8, 1, 3, 14, 50, 9, 50}};
    private long now;
    private int hostSpeed;
    private boolean strongly;
    private int resetCount;
    private int missCount;
    private int deadCount;

    private int lastFork = NONE;
    private boolean[] foundBits = new boolean[64];
    private List<Integer> forkList = new ArrayList<>();
    private List<Integer> zeroList = new ArrayList<>();
    private boolean over;
    private List<boolean[]> knowns = new ArrayList<>();
    private List<Integer> heats = new ArrayList<>();

    static List<Boolean> bitsOf(long v, int n) {
        List<Boolean> bits = new ArrayList<>();
        for (int i = 0; i < n; i++) {
            bits.add((v >> i & 1) == 1);
        }
        return bits;
    }

    static int sum(List<Boolean> bits) {
        int x = 0;
        for (boolean b : bits) {
            int f = x % 2 ^ (b ? 1 : 0);
            x = x / 2 ^ 140 * f;
        }
        return x;
    }

    int rise() {
        int n = 0;
        for (Dev d : devs) {
            n += d == null ? 0 : 1;
        }
        return 1 + n / 3;
    }

    private boolean low(long t) {
        for (Hold h : holds) {
            if (h.from <= t && t - h.to < rise()) {
                return true;
            }
        }
        return false;
    }

    private Dev need(int i) {
        if (i < 0 || i > 7 || devs[i] == null) {
            throw new NoSuchElementException();
        }
        return devs[i];
    }

    private static void can(boolean ok) {
        if (!ok) {
            throw new IllegalArgumentException();
        }
    }

    int attach(int family, int serial, int slow, int fast, boolean fed) {
        can(family == 40 || family == 58 || family == 35 || family == 29);
        can(serial >= 0 && slow >= 15 && slow <= 60 && fast != 1 && fast >= 0 && fast <= 6);
        for (Dev d : devs) {
            can(d == null || d.family != family || d.serial != serial);
        }
        for (int i = 0; i < 8; i++) {
            if (devs[i] == null) {
                Dev d = new Dev();
                d.family = family;
                d.serial = serial;
                d.slow = slow;
                d.fast = fast;
                d.fed = fed;
                List<Boolean> bits = bitsOf(family, 8);
                bits.addAll(bitsOf(serial, 48));
                bits.addAll(bitsOf(sum(bits), 8));
                for (int j = 0; j < 64; j++) {
                    d.address[j] = bits.get(j);
                }
                devs[i] = d;
                return i;
            }
        }
        return NONE;
    }

    int detach(int i) {
        Dev d = need(i);
        devs[i] = null;
        holds.removeIf(h -> h.owner == d);
        return count(0);
    }

    int heat(int i, int v) {
        Dev d = need(i);
        can(d.family == 40 && v >= -880 && v <= 2000);
        int was = d.outside;
        d.outside = v;
        return was;
    }

    boolean press(int i, int pin, boolean is) {
        Dev d = need(i);
        can(d.family == 58 && (pin == 0 || pin == 1));
        if (d.pins[pin] == is) {
            return false;
        }
        d.pins[pin] = is;
        if (!d.dead) {
            d.alarm = true;
        }
        return true;
    }

    int pulse(int i, int n) {
        Dev d = need(i);
        can(d.family == 29 && n >= 1 && n <= 1000);
        if (!d.dead) {
            d.pulses = (int) (((long) d.pulses + n) % (1L << 31));
            if (d.limit > 0 && d.pulses >= d.limit) {
                d.alarm = true;
            }
        }
        return d.pulses;
    }

    int stored(int i, int k) {
        Dev d = need(i);
        can(d.family == 35 && k >= 0 && k < 16);
        return d.bytes[k];
    }

    int device(int i, int what) {
        Dev d = need(i);
        int kind = d.family;
        switch (what) {
            case 0: return d.family;
            case 1: return d.serial;
            case 2: return d.speed;
            case 3: return d.dead ? 3 : d.plan.isEmpty() ? 0 : d.plan.peek().bit == null ? 1 : 2;
            case 4: return d.fed ? d.charge : NONE;
            case 5: return d.alarm ? 1 : 0;
            case 6: return d.left > 0 ? 1 : 0;
            case 7:
                return kind == 40 ? d.heat : kind == 35 ? d.target : kind == 29 ? d.pulses
                    : (d.pins[0] ? 1 : 0) + (d.pins[1] ? 2 : 0);
            case 8:
                return kind == 40 ? d.high : kind == 29 ? d.limit
                    : kind == 35 ? d.pad[0] + (d.pad[1] << 8) + (d.pad[2] << 16) + (d.pad[3] << 24)
                    : (d.outputs[0] ? 1 : 0) + (d.outputs[1] ? 2 : 0);
            case 9: return kind == 40 ? d.low : 0;
            case 10: return kind == 40 ? d.fine : 0;
            case 11: return number(d.address, 56, 8);
            case 12: return d.mine ? 1 : 0;
            default: return NONE;
        }
    }

    static int number(boolean[] bits, int from, int n) {
        int v = 0;
        for (int i = 0; i < n; i++) {
            v += bits[from + i] ? 1 << i : 0;
        }
        return v;
    }

    int speed(int v) {
        if (v != 0 && v != 1) {
            return NONE;
        }
        int was = hostSpeed;
        hostSpeed = v;
        return was;
    }

    int time(int s, int what, int v) {
        if (s < 0 || s > 1 || what < 0 || what > 7 || v < 1 || v > 1000) {
            return NONE;
        }
        int was = times[s][what];
        times[s][what] = v;
        return was;
    }

    int slot(int low, int sample, int length) {
        if (low < 1 || length < low || length > 2000 || sample < 0 || sample > length) {
            return NONE;
        }
        return run(low, sample, length);
    }

    private int run(int low, int sample, int length) {
        boolean before = low(now);
        holds.removeIf(h -> h.to < now - 5);
        holds.add(new Hold(null, now, now + low));
        int seen = 0;
        int reset = 0;
        for (Dev d : devs) {
            if (d == null) {
                continue;
            }
            d.isReset = false;
            d.sees = !before && !d.dead && now >= d.busyTo;
            if (!d.sees) {
                missCount += d.dead ? 0 : 1;
                continue;
            }
            seen++;
            if (low >= 480 || d.speed == 1 && low >= 48) {
                d.isReset = true;
                reset++;
                d.speed = low >= 480 ? 0 : d.speed;
                long from = now + low + rise() + d.clock();
                holds.add(new Hold(d, from, from + 4 * d.clock()));
                d.busyTo = from + 4 * d.clock();
            } else if (!d.plan.isEmpty()) {
                if (d.plan.peek().bit == null) {
                    d.busyTo = now + d.clock();
                } else if (d.plan.peek().bit.getAsInt() == 0) {
                    d.busyTo = now + d.clock() * 3 / 2;
                    holds.add(new Hold(d, now, d.busyTo));
                }
            }
        }
        for (Dev d : devs) {
            if (d != null && d.sees && !d.isReset) {
                d.took = low(now + d.clock()) ? 0 : 1;
            }
        }
        int sampled = sample == NONE ? NONE : low(now + sample) ? 0 : 1;
        int lows = pass(length, false);
        slots.add(new int[] {low, length, sampled, seen, reset, lows});
        for (Dev d : devs) {
            if (d == null || !d.sees || d.wasDead) {
                continue;
            }
            if (d.isReset) {
                resetCount++;
                d.beReset();
            } else if (!d.plan.isEmpty()) {
                d.plan.poll().then.accept(d.took);
            }
        }
        return sampled;
    }

    /** TIME goes on by a SLOT or by waiting: in how many US the line was LOW. */
    private int pass(int length, boolean strong) {
        boolean[] lows = new boolean[length];
        int n = 0;
        for (int us = 0; us < length; us++) {
            // Nothing holds the line for longer than that.
            lows[us] = us < 3000 && low(now + us);
            n += lows[us] ? 1 : 0;
        }
        gone.clear();
        for (Dev d : devs) {
            if (d == null) {
                continue;
            }
            d.wasDead = d.dead;
            if (d.fed) {
                boolean[] done = new boolean[length];
                for (int part = 1; part <= 3; part++) {
                    int converts = Math.min(d.left, length);
                    int change = 0;
                    for (int us = 0; us < length; us++) {
                        boolean mineNow = part == 1 ? lows[us] : part == 2 ? us < converts : true;
                        if (mineNow && !done[us]) {
                            done[us] = true;
                            change += lows[us] ? -1 : 1;
                            change -= us < converts && !strong ? 3 : 0;
                        }
                    }
                    d.charge = Math.min(2000, d.charge + change);
                    if (d.charge < 0) {
                        d.charge = 0;
                        if (!d.dead) {
                            d.die();
                        }
                    }
                    if (d.dead && d.charge >= 500) {
                        d.dead = false;
                    }
                }
            }
            if (d.left > 0) {
                d.left -= Math.min(length, d.left);
                if (d.left == 0) {
                    int step = d.fine == 3 ? 1 : d.fine == 2 ? 2 : d.fine == 1 ? 4 : 8;
                    d.heat = Math.floorDiv(d.outside, step) * step;
                    int by16 = Math.floorDiv(d.heat, 16);
                    d.alarm = by16 >= d.high || by16 <= d.low;
                }
            }
        }
        now += length;
        holds.removeIf(h -> gone.contains(h.owner));
        return n;
    }

    int trace(int k, int what) {
        return k < 0 || k > 31 || k >= slots.size() || what < 0 || what > 5 ? NONE : slots.get(slots.size() - 1 - k)[what];
    }

    boolean reset() {
        int[] t = times[hostSpeed];
        return run(t[5], t[5] + t[6], t[5] + Math.max(t[6], t[7])) == 0;
    }

    private void put(boolean bit) {
        int[] t = times[hostSpeed];
        int low = bit ? t[0] : t[1];
        run(low, NONE, Math.max(low, t[4]));
    }

    private boolean get() {
        int[] t = times[hostSpeed];
        return run(t[2], t[3], Math.max(Math.max(t[2], t[3]), t[4])) == 1;
    }

    private void putAll(long v, int n) {
        for (boolean b : bitsOf(v, n)) {
            put(b);
        }
    }

    private boolean[] getAll(int n) {
        boolean[] all = new boolean[n];
        for (int i = 0; i < n; i++) {
            all[i] = get();
        }
        return all;
    }

    int write(int v, int n) {
        if (n < 0 || n > 8) {
            return NONE;
        }
        putAll(v, n);
        return (int) now;
    }

    int read(int n) {
        return n < 0 || n > 8 ? NONE : number(getAll(n), 0, n);
    }

    int idle(int us) {
        if (us < 0 || us > 100000) {
            return NONE;
        }
        int was = deadCount;
        pass(us, strongly);
        return deadCount - was;
    }

    boolean strong(boolean is) {
        boolean was = strongly;
        strongly = is;
        return was != is;
    }

    int anew() {
        lastFork = NONE;
        foundBits = new boolean[64];
        forkList = new ArrayList<>();
        zeroList = new ArrayList<>();
        over = false;
        return 0;
    }

    private int fail(int answer) {
        anew();
        return answer;
    }

    int pass(boolean alarm) {
        if (over) {
            return fail(0);
        }
        if (!reset()) {
            return fail(-2);
        }
        putAll(alarm ? 236 : 240, 8);
        List<Integer> allForks = new ArrayList<>();
        List<Integer> zeros = new ArrayList<>();
        boolean[] taken = new boolean[64];
        for (int i = 0; i < 64; i++) {
            boolean one = get();
            boolean other = get();
            if (one && other) {
                return fail(-3);
            }
            if (one || other) {
                taken[i] = one;
            } else {
                taken[i] = i < lastFork ? foundBits[i] : i == lastFork;
                allForks.add(i);
                if (!taken[i]) {
                    zeros.add(i);
                }
            }
            put(taken[i]);
        }
        List<Boolean> ahead = new ArrayList<>();
        for (int i = 0; i < 56; i++) {
            ahead.add(taken[i]);
        }
        if (sum(ahead) != number(taken, 56, 8)) {
            return fail(-4);
        }
        foundBits = taken;
        forkList = allForks;
        zeroList = zeros;
        lastFork = zeros.isEmpty() ? NONE : zeros.get(zeros.size() - 1);
        over = zeros.isEmpty();
        return 1;
    }

    boolean target(int family) {
        if (family < 0 || family > 255) {
            return false;
        }
        foundBits = new boolean[64];
        for (int i = 0; i < 8; i++) {
            foundBits[i] = (family >> i) % 2 == 1;
        }
        lastFork = 63;
        over = false;
        return true;
    }

    int leave() {
        lastFork = NONE;
        for (int z : zeroList) {
            lastFork = z < 8 ? Math.max(lastFork, z) : lastFork;
        }
        over = lastFork == NONE;
        return lastFork;
    }

    int found(int k) {
        return k < 0 || k > 7 ? NONE : number(foundBits, 8 * k, 8);
    }

    long forks() {
        long v = 0;
        for (int f : forkList) {
            v |= 1L << f;
        }
        return v;
    }

    int last() {
        return lastFork;
    }

    int roll(boolean alarm) {
        anew();
        knowns = new ArrayList<>();
        heats = new ArrayList<>();
        while (knowns.size() < 16 && pass(alarm) == 1) {
            knowns.add(foundBits);
            heats.add(-100002);
        }
        return knowns.size();
    }

    int known(int i, int k) {
        return i < 0 || i >= knowns.size() || k < 0 || k > 7 ? NONE : number(knowns.get(i), 8 * k, 8);
    }

    int missing() {
        int bits = 0;
        for (int i = 0; i < knowns.size(); i++) {
            boolean there = reset();
            if (there) {
                putAll(240, 8);
            }
            for (int j = 0; j < 64 && there; j++) {
                boolean own = knowns.get(i)[j];
                boolean bit = get();
                boolean complement = get();
                there = own ? !complement : !bit;
                if (there) {
                    put(own);
                }
            }
            bits += there ? 0 : 1 << i;
        }
        return bits;
    }

    private boolean open(int i) {
        if (!reset()) {
            return false;
        }
        putAll(85, 8);
        for (boolean b : knowns.get(i)) {
            put(b);
        }
        return true;
    }

    private int heatRead() {
        putAll(190, 8);
        boolean[] all = getAll(48);
        List<Boolean> ahead = new ArrayList<>();
        for (int i = 0; i < 40; i++) {
            ahead.add(all[i]);
        }
        return sum(ahead) == number(all, 40, 8) ? (short) number(all, 0, 16) : -100004;
    }

    private void waitStrongly(int us) {
        pass(us, true);
    }

    int measure(int i, int us) {
        if (i < 0 || i >= knowns.size() || us < 0 || us > 100000) {
            return NONE;
        }
        if (!open(i)) {
            return -100002;
        }
        putAll(68, 8);
        waitStrongly(us);
        return open(i) ? heatRead() : -100002;
    }

    int measureAll(int us) {
        if (us < 0 || us > 100000) {
            return NONE;
        }
        heats.replaceAll(h -> -100002);
        if (!reset()) {
            return -100002;
        }
        putAll(204 + 68 * 256, 16);
        waitStrongly(us);
        int right = 0;
        for (int i = 0; i < knowns.size(); i++) {
            if (known(i, 0) == 40 && open(i)) {
                heats.set(i, heatRead());
                right += heats.get(i) == -100004 ? 0 : 1;
            }
        }
        return right;
    }

    int measured(int i) {
        return i < 0 || i >= knowns.size() ? NONE : heats.get(i);
    }

    int look(int i) {
        if (i < 0 || i >= knowns.size()) {
            return NONE;
        }
        if (!open(i)) {
            return -100002;
        }
        putAll(245, 8);
        boolean[] all = getAll(8);
        for (int j = 0; j < 4; j++) {
            if (all[j] == all[j + 4]) {
                return -100004;
            }
        }
        return number(all, 0, 4);
    }

    int store(int i, int target, int v) {
        if (i < 0 || i >= knowns.size() || target < 0 || target > 255) {
            return NONE;
        }
        if (!open(i)) {
            return -100002;
        }
        putAll(15, 8);
        List<Boolean> forty = bitsOf(target, 8);
        forty.addAll(bitsOf(v, 32));
        for (boolean b : forty) {
            put(b);
        }
        if (number(getAll(8), 0, 8) != sum(forty)) {
            return -100004;
        }
        if (!open(i)) {
            return -100002;
        }
        putAll(85, 8);
        putAll(target % 16, 8);
        return number(getAll(8), 0, 8) == 170 ? 1 : -100004;
    }

    boolean raise() {
        hostSpeed = 0;
        if (!reset()) {
            return false;
        }
        putAll(60, 8);
        hostSpeed = 1;
        return reset();
    }

    int lasts(int i) {
        Dev d = need(i);
        if (d.family != 40) {
            return NONE;
        }
        if (d.dead) {
            return 0;
        }
        int whole = 900 << d.fine;
        int us = 0;
        for (int c = d.charge - 2; us < whole && (!d.fed || c >= 0); c -= 2) {
            us++;
        }
        return us;
    }

    private String text(Dev d) {
        StringBuilder b = new StringBuilder();
        for (boolean bit : d.address) {
            b.append(bit ? '1' : '0');
        }
        return b.toString();
    }

    int branch(int k) {
        List<String> all = new ArrayList<>();
        for (Dev d : devs) {
            if (d != null) {
                all.add(text(d));
            }
        }
        all.sort(null);
        for (int i = 0; i < 8; i++) {
            if (devs[i] != null && k >= 0 && k < all.size() && all.get(k).equals(text(devs[i]))) {
                return i;
            }
        }
        return NONE;
    }

    int parts(int one, int other) {
        if (one < 0 || one > 7 || other < 0 || other > 7 || devs[one] == null || devs[other] == null) {
            return NONE;
        }
        for (int i = 0; i < 64; i++) {
            if (devs[one].address[i] != devs[other].address[i]) {
                return i;
            }
        }
        return NONE;
    }

    /** Whether the line, held by a few from 0 on till some US each, is LOW at one. */
    private boolean lowBy(int at, int... untils) {
        for (int until : untils) {
            if (at - until < rise()) {
                return true;
            }
        }
        return false;
    }

    int limit(int s, int what, boolean most) {
        if (s < 0 || s > 1 || what < 0 || what > 3) {
            return NONE;
        }
        int answer = NONE;
        for (int v = 1; v <= 1000; v++) {
            int[] t = times[s].clone();
            t[what] = v;
            boolean ok = true;
            boolean any = false;
            for (Dev d : devs) {
                if (d == null || s == 1 && d.fast == 0) {
                    continue;
                }
                any = true;
                int c = s == 0 ? d.slow : d.fast;
                if (what == 0) {
                    ok &= !lowBy(c, v);
                } else if (what == 1) {
                    ok &= lowBy(c, v) && v < (s == 0 ? 480 : 48);
                } else {
                    ok &= lowBy(t[3], t[2], c + c / 2) && !lowBy(t[3], t[2]);
                    ok &= what == 2 || t[3] < t[4];
                }
            }
            if (any && ok && (most || answer == NONE)) {
                answer = v;
            }
        }
        return answer;
    }

    int blame(int i, int s) {
        Dev d = need(i);
        if (s < 0 || s > 1 || s == 1 && d.fast == 0) {
            return NONE;
        }
        int[] t = times[s];
        int c = s == 0 ? d.slow : d.fast;
        int reset = s == 0 ? 480 : 48;
        int readEnd = Math.max(Math.max(t[2], t[3]), t[4]);
        int from = t[5] + rise() + c;
        int to = from + 4 * c;
        int sampled = t[5] + t[6];
        int end = t[5] + Math.max(t[6], t[7]);
        int bits = 0;
        bits += lowBy(c, t[0]) ? 1 : 0;
        bits += !lowBy(c, t[1]) || t[1] >= reset ? 2 : 0;
        bits += !lowBy(t[3], t[2], c + c / 2) ? 4 : 0;
        bits += lowBy(t[3], t[2]) ? 8 : 0;
        bits += lowBy(readEnd, t[2], c + c / 2) ? 16 : 0;
        bits += sampled >= from && lowBy(sampled, to) ? 0 : 32;
        bits += end >= from && lowBy(end, to) ? 64 : 0;
        bits += t[5] < reset ? 128 : 0;
        return bits;
    }

    int checksum(long v, int n) {
        return n < 0 || n > 64 ? NONE : sum(bitsOf(v, n));
    }

    int count(int what) {
        switch (what) {
            case 0:
                int n = 0;
                for (Dev d : devs) {
                    n += d == null ? 0 : 1;
                }
                return n;
            case 1: return hostSpeed;
            case 2: return (int) now;
            case 3: return slots.size();
            case 4: return resetCount;
            case 5: return missCount;
            case 6: return deadCount;
            case 7: return knowns.size();
            case 8: return rise();
            default: return NONE;
        }
    }
}
