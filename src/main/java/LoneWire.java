import java.util.NoSuchElementException;

/** A wire of one line, its host and up to eight devices, after the document's promises. */
public final class LoneWire {
    public static final int NONE = -1;

    private static final int MOST_DEVICES = 8;
    private static final int MOST_KNOWN = 16;
    private static final int MOST_WAITING = 100000;
    private static final int MOST_LENGTH = 2000;
    private static final int MOST_TIME = 1000;
    private static final int TIMES = 8;

    private static final int ONE_LOW = 0;
    private static final int ZERO_LOW = 1;
    private static final int READ_LOW = 2;
    private static final int READ_SAMPLE = 3;
    private static final int SLOT_LENGTH = 4;
    private static final int RESET_LOW = 5;
    private static final int PRESENCE_SAMPLE = 6;
    private static final int PRESENCE_LENGTH = 7;

    private static final int SLOW_RESET = 480;
    private static final int FAST_RESET = 48;

    private static final int THERMOMETER = 40;
    private static final int SWITCH = 58;
    private static final int MEMORY = 35;
    private static final int COUNTER = 29;

    private static final int NOBODY = -100002;
    private static final int WRONG = -100004;
    /** What a MEMORY and a SWITCH tell when they have done what was asked. */
    private static final int DONE = 170;

    private static final int ADDRESS_BITS = 64;
    private static final int CHECKED_BITS = 56;
    private static final int BITS_31 = 0x7fffffff;

    private static final int[] FIRST_TIMES = {
        6, 60, 6, 14, 95, 480, 75, 420,
        1, 8, 1, 3, 14, 50, 9, 50
    };

    private final Line line = new Line();
    private final Search search = new Search();
    private final int[] times = new int[2 * TIMES];
    private final long[] knownAddresses = new long[MOST_KNOWN];
    private final int[] heats = new int[MOST_KNOWN];
    private int knownCount;
    private int hostSpeed;
    private boolean pullsStrongly;

    public LoneWire() {
        for (int i = 0; i < times.length && i < FIRST_TIMES.length; i++) {
            times[i] = FIRST_TIMES[i];
        }
    }

    // ---- who is there

    public int attach(int family, int serial, int slow, int fast, boolean fed) throws IllegalArgumentException {
        if (!isFamily(family) || serial < 0 || !areClocks(slow, fast)) {
            throw new IllegalArgumentException("no such DEVICE can be");
        }
        long address = addressOf(family, serial);
        if (line.hasAddress(address)) {
            throw new IllegalArgumentException("there is one with that FAMILY and SERIAL");
        }
        int free = line.leastFree();
        if (free == NONE) {
            return NONE;
        }
        line.put(free, new Device(address, slow, fast, fed, newKind(family)));
        return free;
    }

    public int detach(int device) throws NoSuchElementException {
        there(device);
        line.put(device, null);
        return line.howMany();
    }

    public int heat(int device, int v) throws NoSuchElementException, IllegalArgumentException {
        if (!(there(device).kind instanceof Thermometer thermometer)) {
            throw new IllegalArgumentException("no THERMOMETER");
        }
        if (v < -880 || v > 2000) {
            throw new IllegalArgumentException("it can't be so hot");
        }
        int was = thermometer.outside;
        thermometer.outside = v;
        return was;
    }

    public boolean press(int device, int pin, boolean is) throws NoSuchElementException, IllegalArgumentException {
        Device pressed = there(device);
        if (!(pressed.kind instanceof Switch pins)) {
            throw new IllegalArgumentException("no SWITCH");
        }
        if (pin < 0 || pin > 1) {
            throw new IllegalArgumentException("no such PIN");
        }
        return pins.setPin(pin, is, pressed.dead);
    }

    public int device(int device, int what) throws NoSuchElementException {
        Device asked = there(device);
        switch (what) {
            case 0: return asked.familyNumber();
            case 1: return (int) (asked.address >> 8) & BITS_31;
            case 2: return asked.ownSpeed;
            case 3: return asked.doing();
            case 4: return asked.fed ? asked.charge : NONE;
            case 5: return asked.kind.alarm ? 1 : 0;
            case 11: return (int) (asked.address >>> CHECKED_BITS);
            case 12: return asked.mine ? 1 : 0;
            default: return what >= 6 && what <= 10 ? asked.kind.property(what) : NONE;
        }
    }

    public int pulse(int device, int n) throws NoSuchElementException, IllegalArgumentException {
        Device pulsed = there(device);
        if (!(pulsed.kind instanceof Counter counter)) {
            throw new IllegalArgumentException("no COUNTER");
        }
        if (n < 1 || n > 1000) {
            throw new IllegalArgumentException("so many PULSES can't be");
        }
        if (!pulsed.dead) {
            counter.add(n);
        }
        return counter.pulses;
    }

    public int stored(int device, int k) throws NoSuchElementException, IllegalArgumentException {
        if (!(there(device).kind instanceof Memory memory)) {
            throw new IllegalArgumentException("no MEMORY");
        }
        if (k < 0 || k >= memory.bytes.length) {
            throw new IllegalArgumentException("no such byte");
        }
        return memory.bytes[k];
    }

    // ---- the line

    public int speed(int v) {
        if (!isSpeed(v)) {
            return NONE;
        }
        int was = hostSpeed;
        hostSpeed = v;
        return was;
    }

    public int time(int speed, int what, int v) {
        if (!isSpeed(speed) || what < 0 || what >= TIMES || v < 1 || v > MOST_TIME) {
            return NONE;
        }
        int was = times[speed * TIMES + what];
        times[speed * TIMES + what] = v;
        return was;
    }

    public int slot(int low, int sample, int length) {
        if (low < 1 || length < low || length > MOST_LENGTH || sample < 0 || sample > length) {
            return NONE;
        }
        return line.runSlot(low, sample, length);
    }

    public int trace(int k, int what) {
        return line.traced(k, what);
    }

    public boolean reset() {
        return hostReset();
    }

    public int write(int v, int n) {
        if (n < 0 || n > 8) {
            return NONE;
        }
        send(v, n);
        return (int) line.now;
    }

    public int read(int n) {
        if (n < 0 || n > 8) {
            return NONE;
        }
        return (int) receive(n);
    }

    public int idle(int us) {
        return isWaiting(us) ? line.waitFor(us, pullsStrongly) : NONE;
    }

    public boolean strong(boolean is) {
        boolean other = is != pullsStrongly;
        pullsStrongly = is;
        return other;
    }

    // ---- addresses

    public int pass(boolean alarm) {
        return runPass(alarm);
    }

    public int anew() {
        search.beginAnew();
        return 0;
    }

    public boolean target(int family) {
        if (family < 0 || family > 255) {
            return false;
        }
        search.aimAt(family);
        return true;
    }

    public int leave() {
        search.leaveFamily();
        return search.lastFork;
    }

    public int found(int k) {
        return byteOf(search.address, k);
    }

    public long forks() {
        return search.forkBits;
    }

    public int last() {
        return search.lastFork;
    }

    public int roll(boolean alarm) {
        search.beginAnew();
        knownCount = 0;
        for (int i = 0; i < MOST_KNOWN; i++) {
            heats[i] = NOBODY;
        }
        for (int i = 0; i < MOST_KNOWN && runPass(alarm) == 1; i++) {
            knownAddresses[i] = search.address;
            knownCount = i + 1;
        }
        return knownCount;
    }

    public int known(int i, int k) {
        return isKnown(i) ? byteOf(knownAddresses[i], k) : NONE;
    }

    public int missing() {
        int bits = 0;
        for (int i = 0; i < knownCount && i < MOST_KNOWN; i++) {
            if (isMissing(knownAddresses[i])) {
                bits |= 1 << i;
            }
        }
        return bits;
    }

    // ---- what the host does in one go

    public int measure(int i, int us) {
        if (!isKnown(i) || !isWaiting(us)) {
            return NONE;
        }
        if (!choose(knownAddresses[i])) {
            return NOBODY;
        }
        send(68, 8);
        line.waitFor(us, true);
        if (!choose(knownAddresses[i])) {
            return NOBODY;
        }
        return readHeat();
    }

    public int measureAll(int us) {
        if (!isWaiting(us)) {
            return NONE;
        }
        for (int i = 0; i < MOST_KNOWN; i++) {
            heats[i] = NOBODY;
        }
        if (!hostReset()) {
            return NOBODY;
        }
        send(204, 8);
        send(68, 8);
        line.waitFor(us, true);
        int right = 0;
        for (int i = 0; i < knownCount && i < MOST_KNOWN; i++) {
            if (byteOf(knownAddresses[i], 0) == THERMOMETER && choose(knownAddresses[i])) {
                heats[i] = readHeat();
                right += heats[i] == WRONG ? 0 : 1;
            }
        }
        return right;
    }

    public int measured(int i) {
        return isKnown(i) ? heats[i] : NONE;
    }

    public int look(int i) {
        if (!isKnown(i)) {
            return NONE;
        }
        if (!choose(knownAddresses[i])) {
            return NOBODY;
        }
        send(245, 8);
        int status = (int) receive(8);
        return (status >> 4) == (~status & 15) ? status & 15 : WRONG;
    }

    public int store(int i, int target, int v) {
        if (!isKnown(i) || target < 0 || target > 255) {
            return NONE;
        }
        if (!choose(knownAddresses[i])) {
            return NOBODY;
        }
        long bits = target | (v & 0xffffffffL) << 8;
        send(15, 8);
        send(bits, 40);
        if (receive(8) != checksumOf(bits, 40)) {
            return WRONG;
        }
        if (!choose(knownAddresses[i])) {
            return NOBODY;
        }
        send(85, 8);
        send(target & 15, 8);
        return receive(8) == DONE ? 1 : WRONG;
    }

    public boolean raise() {
        hostSpeed = 0;
        if (!hostReset()) {
            return false;
        }
        send(60, 8);
        hostSpeed = 1;
        return hostReset();
    }

    // ---- what is told

    public int lasts(int device) throws NoSuchElementException {
        Device asked = there(device);
        if (!(asked.kind instanceof Thermometer thermometer)) {
            return NONE;
        }
        if (asked.dead) {
            return 0;
        }
        int whole = thermometer.wholeConversion();
        return asked.fed ? Math.min(whole, asked.charge / 2) : whole;
    }

    public int branch(int k) {
        return line.kthByBranches(k);
    }

    public int parts(int one, int other) {
        Device first = line.at(one);
        Device second = line.at(other);
        return first == null || second == null ? NONE : firstUnlike(first.address, second.address);
    }

    public int limit(int speed, int what, boolean most) {
        if (!isSpeed(speed) || what < ONE_LOW || what > READ_SAMPLE) {
            return NONE;
        }
        int quickest = line.leastClock(speed);
        int slowest = line.greatestClock(speed);
        if (quickest == NONE || slowest == NONE) {
            return NONE;
        }
        int least = leastTime(speed, what, slowest);
        int greatest = greatestTime(speed, what, quickest);
        if (least > greatest) {
            return NONE;
        }
        return most ? greatest : least;
    }

    public int blame(int device, int speed) throws NoSuchElementException {
        Device asked = there(device);
        if (!isSpeed(speed) || !asked.knows(speed)) {
            return NONE;
        }
        int clock = asked.clockAt(speed);
        return blameForBits(speed, clock) | blameForReset(speed, clock);
    }

    public int checksum(long v, int n) {
        return n < 0 || n > ADDRESS_BITS ? NONE : checksumOf(v, n);
    }

    public int count(int what) {
        switch (what) {
            case 0: return line.howMany();
            case 1: return hostSpeed;
            case 2: return (int) line.now;
            case 3: return line.slots;
            case 4: return line.resets;
            case 5: return line.missedEdges;
            case 6: return line.deaths;
            case 7: return knownCount;
            case 8: return line.rise;
            default: return NONE;
        }
    }

    // ---- what can be

    private Device there(int device) {
        Device found = line.at(device);
        if (found == null) {
            throw new NoSuchElementException("there is no such DEVICE");
        }
        return found;
    }

    private boolean isKnown(int i) {
        return i >= 0 && i < knownCount && i < MOST_KNOWN;
    }

    private static boolean isSpeed(int speed) {
        return speed == 0 || speed == 1;
    }

    private static boolean isWaiting(int us) {
        return us >= 0 && us <= MOST_WAITING;
    }

    private static boolean isFamily(int family) {
        return family == THERMOMETER || family == SWITCH || family == MEMORY || family == COUNTER;
    }

    private static boolean areClocks(int slow, int fast) {
        return slow >= 15 && slow <= 60 && (fast == 0 || fast >= 2 && fast <= 6);
    }

    private static Kind newKind(int family) {
        switch (family) {
            case THERMOMETER: return new Thermometer();
            case SWITCH: return new Switch();
            case MEMORY: return new Memory();
            default: return new Counter();
        }
    }

    // ---- numbers

    private static long addressOf(int family, int serial) {
        long checked = family | (long) serial << 8;
        return checked | (long) checksumOf(checked, CHECKED_BITS) << CHECKED_BITS;
    }

    private static int checksumOf(long bits, int n) {
        int x = 0;
        for (int i = 0; i < n; i++) {
            int f = (x ^ (int) (bits >> i)) & 1;
            x >>= 1;
            if (f == 1) {
                x ^= 140;
            }
        }
        return x;
    }

    private static int byteOf(long address, int k) {
        return k < 0 || k > 7 ? NONE : (int) (address >> 8 * k) & 255;
    }

    private static int firstUnlike(long one, long other) {
        for (int bit = 0; bit < ADDRESS_BITS; bit++) {
            if (((one ^ other) >> bit & 1) == 1) {
                return bit;
            }
        }
        return NONE;
    }

    /** For how long a DEVICE of that CLOCK holds the line to tell a 0. */
    private static int zeroHold(int clock) {
        return clock + clock / 2;
    }

    private static int shortestReset(int speed) {
        return speed == 0 ? SLOW_RESET : FAST_RESET;
    }

    // ---- the host's SLOTS

    private int timeAt(int speed, int what) {
        return times[speed * TIMES + what];
    }

    private void send(long bits, int n) {
        for (int i = 0; i < n; i++) {
            int low = timeAt(hostSpeed, (bits >> i & 1) == 1 ? ONE_LOW : ZERO_LOW);
            line.runSlot(low, NONE, Math.max(low, timeAt(hostSpeed, SLOT_LENGTH)));
        }
    }

    private long receive(int n) {
        long bits = 0;
        for (int i = 0; i < n; i++) {
            int low = timeAt(hostSpeed, READ_LOW);
            int sample = timeAt(hostSpeed, READ_SAMPLE);
            bits |= (long) line.runSlot(low, sample, readLength(hostSpeed)) << i;
        }
        return bits;
    }

    private int readLength(int speed) {
        int needed = Math.max(timeAt(speed, READ_LOW), timeAt(speed, READ_SAMPLE));
        return Math.max(needed, timeAt(speed, SLOT_LENGTH));
    }

    private boolean hostReset() {
        int low = timeAt(hostSpeed, RESET_LOW);
        int sample = low + timeAt(hostSpeed, PRESENCE_SAMPLE);
        return line.runSlot(low, sample, low + lengthBehindReset(hostSpeed)) == 0;
    }

    private int lengthBehindReset(int speed) {
        return Math.max(timeAt(speed, PRESENCE_SAMPLE), timeAt(speed, PRESENCE_LENGTH));
    }

    // ---- what the host does with them

    private int runPass(boolean alarm) {
        if (search.over) {
            search.beginAnew();
            return 0;
        }
        if (!hostReset()) {
            search.beginAnew();
            return -2;
        }
        send(alarm ? 236 : 240, 8);
        long address = 0;
        long forkBits = 0;
        for (int bit = 0; bit < ADDRESS_BITS; bit++) {
            int both = (int) receive(2);
            if (both == 3) {
                search.beginAnew();
                return -3;
            }
            boolean one = both == 0 ? search.takesOne(bit) : both == 1;
            forkBits |= both == 0 ? 1L << bit : 0;
            address |= one ? 1L << bit : 0;
            send(one ? 1 : 0, 1);
        }
        if (checksumOf(address, CHECKED_BITS) != byteOf(address, 7)) {
            search.beginAnew();
            return -4;
        }
        search.keep(address, forkBits);
        return 1;
    }

    private boolean isMissing(long address) {
        if (!hostReset()) {
            return true;
        }
        send(240, 8);
        for (int bit = 0; bit < ADDRESS_BITS; bit++) {
            int own = (int) (address >> bit & 1);
            int both = (int) receive(2);
            if ((both >> own & 1) == 1) {
                return true;
            }
            send(own, 1);
        }
        return false;
    }

    private boolean choose(long address) {
        if (!hostReset()) {
            return false;
        }
        send(85, 8);
        send(address, ADDRESS_BITS);
        return true;
    }

    private int readHeat() {
        send(190, 8);
        long bits = receive(48);
        return checksumOf(bits, 40) == byteOf(bits, 5) ? (short) bits : WRONG;
    }

    // ---- LIMITS and blame

    private int leastTime(int speed, int what, int slowest) {
        switch (what) {
            case ZERO_LOW: return Math.max(1, slowest - line.rise + 1);
            case READ_SAMPLE: return timeAt(speed, READ_LOW) + line.rise;
            default: return 1;
        }
    }

    private int greatestTime(int speed, int what, int quickest) {
        int rise = line.rise;
        int zeroEnds = zeroHold(quickest) + rise;
        int sample = timeAt(speed, READ_SAMPLE);
        switch (what) {
            case ONE_LOW: return quickest - rise;
            case ZERO_LOW: return shortestReset(speed) - 1;
            case READ_LOW: return sample < zeroEnds ? sample - rise : 0;
            default: return Math.min(zeroEnds, timeAt(speed, SLOT_LENGTH)) - 1;
        }
    }

    private int blameForBits(int speed, int clock) {
        int rise = line.rise;
        int zeroLow = timeAt(speed, ZERO_LOW);
        int readLow = timeAt(speed, READ_LOW);
        int sample = timeAt(speed, READ_SAMPLE);
        int zeroEnds = Math.max(readLow, zeroHold(clock)) + rise;
        int bits = 0;
        bits |= timeAt(speed, ONE_LOW) + rise > clock ? 1 : 0;
        bits |= zeroLow + rise <= clock || zeroLow >= shortestReset(speed) ? 2 : 0;
        bits |= sample >= zeroEnds ? 4 : 0;
        bits |= sample < readLow + rise ? 8 : 0;
        bits |= readLength(speed) < zeroEnds ? 16 : 0;
        return bits;
    }

    private int blameForReset(int speed, int clock) {
        int begins = line.rise + clock;
        int ends = begins + 4 * clock + line.rise;
        int sample = timeAt(speed, PRESENCE_SAMPLE);
        int length = lengthBehindReset(speed);
        int bits = 0;
        bits |= sample < begins || sample >= ends ? 32 : 0;
        bits |= length >= begins && length < ends ? 64 : 0;
        bits |= timeAt(speed, RESET_LOW) < shortestReset(speed) ? 128 : 0;
        return bits;
    }

    /** What the host remembers from PASS to PASS. */
    private static final class Search {
        private long address;
        private long forkBits;
        /** FORKS at which 0 was taken; kept apart, as a TARGET puts another ADDRESS in place. */
        private long zeroForks;
        private int lastFork = NONE;
        /** Whether the next PASS is 0 without a look at the line. */
        private boolean over;

        private void beginAnew() {
            address = 0;
            forkBits = 0;
            zeroForks = 0;
            lastFork = NONE;
            over = false;
        }

        private boolean takesOne(int bit) {
            return bit == lastFork || bit < lastFork && (address >> bit & 1) == 1;
        }

        private void keep(long foundAddress, long foundForks) {
            address = foundAddress;
            forkBits = foundForks;
            zeroForks = foundForks & ~foundAddress;
            turnAt(ADDRESS_BITS);
        }

        private void aimAt(int family) {
            address = family;
            lastFork = ADDRESS_BITS - 1;
            over = false;
        }

        private void leaveFamily() {
            turnAt(8);
        }

        /** LAST is the last FORK below that bit at which 0 was taken. */
        private void turnAt(int bits) {
            lastFork = NONE;
            for (int bit = 0; bit < bits; bit++) {
                if ((zeroForks >> bit & 1) == 1) {
                    lastFork = bit;
                }
            }
            over = lastFork == NONE;
        }
    }

    /** The line itself: who is there, who holds it, and what has happened on it. */
    private static final class Line {
        private static final int TRACED_SLOTS = 32;
        private static final int TRACED_PARTS = 6;
        /** Each hold ends once and begins once while one walks along the line. */
        private static final int MOST_TURNS = 2 * (MOST_DEVICES + 1) + 2;

        private final Device[] devices = new Device[MOST_DEVICES];
        private final int[] lowConverting = new int[MOST_DEVICES];
        private final int[] traces = new int[TRACED_SLOTS * TRACED_PARTS];
        /** For how long the line stays LOW behind a hold. */
        private int rise = 1;
        private long now;
        private long hostUntil = Device.LONG_AGO;
        private int slots;
        private int resets;
        private int missedEdges;
        private int deaths;

        private Device at(int i) {
            return i < 0 || i >= devices.length ? null : devices[i];
        }

        private void put(int i, Device device) {
            if (i >= 0 && i < devices.length) {
                devices[i] = device;
                rise = (3 + howMany()) / 3;
            }
        }

        private int leastFree() {
            for (int i = 0; i < devices.length; i++) {
                if (devices[i] == null) {
                    return i;
                }
            }
            return NONE;
        }

        private int howMany() {
            int n = 0;
            for (int i = 0; i < devices.length; i++) {
                if (devices[i] != null) {
                    n++;
                }
            }
            return n;
        }

        private boolean hasAddress(long address) {
            for (int i = 0; i < devices.length; i++) {
                if (devices[i] != null && devices[i].address == address) {
                    return true;
                }
            }
            return false;
        }

        private int leastClock(int speed) {
            int least = NONE;
            for (int i = 0; i < devices.length; i++) {
                Device device = devices[i];
                if (device != null && device.knows(speed)) {
                    int clock = device.clockAt(speed);
                    least = least == NONE ? clock : Math.min(least, clock);
                }
            }
            return least;
        }

        private int greatestClock(int speed) {
            int greatest = NONE;
            for (int i = 0; i < devices.length; i++) {
                Device device = devices[i];
                if (device != null && device.knows(speed)) {
                    greatest = Math.max(greatest, device.clockAt(speed));
                }
            }
            return greatest;
        }

        private int kthByBranches(int k) {
            for (int i = 0; i < devices.length; i++) {
                if (devices[i] != null && howManyAhead(devices[i].address) == k) {
                    return i;
                }
            }
            return NONE;
        }

        private int howManyAhead(long address) {
            int ahead = 0;
            for (int i = 0; i < devices.length; i++) {
                if (devices[i] != null) {
                    int bit = firstUnlike(devices[i].address, address);
                    if (bit != NONE && (address >> bit & 1) == 1) {
                        ahead++;
                    }
                }
            }
            return ahead;
        }

        // ---- LOW or not

        private boolean isLow(long moment) {
            return lowUntil(moment) > moment;
        }

        /** Till when the line is LOW by a hold that goes on at a moment from now on; that moment if by none. */
        private long lowUntil(long moment) {
            long until = Math.max(moment, hostUntil + rise);
            for (int i = 0; i < devices.length; i++) {
                Device device = devices[i];
                if (device != null && device.holdFrom <= moment) {
                    until = Math.max(until, device.holdUntil + rise);
                }
            }
            return until;
        }

        /** When the next hold begins behind a moment; that bound if none does ahead of it. */
        private long nextHold(long moment, long bound) {
            long next = bound;
            for (int i = 0; i < devices.length; i++) {
                Device device = devices[i];
                if (device != null && device.holdFrom > moment) {
                    next = Math.min(next, device.holdFrom);
                }
            }
            return next;
        }

        /** In how many US of the next ones the line is LOW, by all that is held by now. */
        private int lowWithin(int us) {
            long end = now + us;
            long moment = now;
            long lows = 0;
            for (int turn = 0; turn < MOST_TURNS && moment < end; turn++) {
                long until = Math.min(lowUntil(moment), end);
                lows += until - moment;
                moment = until > moment ? until : nextHold(moment, end);
            }
            return (int) lows;
        }

        // ---- TIME goes

        /** A SLOT; sample is NONE when the host only WRITES. Answers what was sampled. */
        private int runSlot(int low, int sample, int length) {
            boolean wasLow = isLow(now);
            hostUntil = now + low;
            int seen = 0;
            int reset = 0;
            for (int i = 0; i < devices.length; i++) {
                Device device = devices[i];
                if (device != null) {
                    device.meetEdge(now, low, rise, wasLow);
                    seen += device.edge == Device.MISSED ? 0 : 1;
                    reset += device.edge == Device.IS_RESET ? 1 : 0;
                    missedEdges += device.edge == Device.MISSED && !device.dead ? 1 : 0;
                }
            }
            letSample();
            int sampled = sample == NONE ? NONE : isLow(now + sample) ? 0 : 1;
            slots++;
            int lows = lowWithin(length);
            keepTrace(low, length, sampled, seen, reset, lows);
            passTime(length, lows, false);
            for (int i = 0; i < devices.length; i++) {
                Device device = devices[i];
                if (device != null) {
                    // Who has been DEAD in this SLOT has lost what it saw, and is not RESET.
                    resets += device.edge == Device.IS_RESET ? 1 : 0;
                    device.goOn();
                }
            }
            return sampled;
        }

        /** All that see the EDGE have begun to hold by now, so what each takes is settled. */
        private void letSample() {
            for (int i = 0; i < devices.length; i++) {
                Device device = devices[i];
                if (device != null && device.edge == Device.SEEN && device.listens()) {
                    device.heard = isLow(now + device.clockAt(device.ownSpeed)) ? 0 : 1;
                }
            }
        }

        private int waitFor(int us, boolean strongly) {
            return passTime(us, lowWithin(us), strongly);
        }

        /** How many came to be DEAD in these US. */
        private int passTime(int us, int lows, boolean strongly) {
            // Who dies lets the line go, but only behind this time: so all is looked at ahead of it.
            for (int i = 0; i < devices.length && i < lowConverting.length; i++) {
                lowConverting[i] = devices[i] == null ? 0 : lowWithin(devices[i].kind.convertsWithin(us));
            }
            int died = 0;
            for (int i = 0; i < devices.length && i < lowConverting.length; i++) {
                Device device = devices[i];
                if (device != null) {
                    died += device.spend(us, lows, lowConverting[i], strongly) ? 1 : 0;
                    device.kind.convertFor(us);
                }
            }
            now += us;
            deaths += died;
            return died;
        }

        // ---- what is kept of SLOTS

        private void keepTrace(int low, int length, int sampled, int seen, int reset, int lows) {
            int at = (slots - 1 & TRACED_SLOTS - 1) * TRACED_PARTS;
            traces[at] = low;
            traces[at + 1] = length;
            traces[at + 2] = sampled;
            traces[at + 3] = seen;
            traces[at + 4] = reset;
            traces[at + 5] = lows;
        }

        private int traced(int k, int what) {
            if (k < 0 || k >= TRACED_SLOTS || k >= slots || what < 0 || what >= TRACED_PARTS) {
                return NONE;
            }
            return traces[(slots - 1 - k & TRACED_SLOTS - 1) * TRACED_PARTS + what];
        }
    }

    /** One that is on the line: its clocks, its charge, and how far it is in listening and telling. */
    private static final class Device {
        /** So far back that nothing of it is left on the line. */
        private static final long LONG_AGO = -1000;

        private static final int FULL_CHARGE = 2000;
        private static final int REVIVING_CHARGE = 500;

        private static final int MISSED = 0;
        private static final int SEEN = 1;
        private static final int IS_RESET = 2;

        // What it does; those that listen stand ahead of those that tell.
        private static final int DEAF = 0;
        private static final int TAKES_COMMAND = 1;
        private static final int TAKES_ADDRESS = 2;
        private static final int TAKES_CHOICE = 3;
        private static final int TAKES_KIND_COMMAND = 4;
        private static final int TAKES_DATA = 5;
        private static final int TELLS_BIT = 6;
        private static final int TELLS_COMPLEMENT = 7;
        private static final int TELLS_BITS = 8;
        private static final int TELLS_CONVERTING = 9;
        private static final int TELLS_FED = 10;
        private static final int TELLS_STATUS = 11;

        private final long address;
        private final int slow;
        private final int fast;
        private final boolean fed;
        private final Kind kind;

        private int ownSpeed;
        private int charge = FULL_CHARGE;
        private boolean dead;
        private boolean mine;

        private int phase = DEAF;
        /** Which bit comes next, how many there are, and the bits taken or to be told. */
        private int next;
        private int wanted;
        private long bits;

        private long holdFrom = LONG_AGO;
        private long holdUntil = LONG_AGO;
        private long busyUntil = LONG_AGO;

        /** Of the SLOT that goes on: whether it saw the EDGE, and the bit it takes. */
        private int edge = MISSED;
        private int heard;

        private Device(long address, int slow, int fast, boolean fed, Kind kind) {
            this.address = address;
            this.slow = slow;
            this.fast = fast;
            this.fed = fed;
            this.kind = kind;
        }

        private int familyNumber() {
            return (int) address & 255;
        }

        private boolean knows(int speed) {
            return speed == 0 || fast > 0;
        }

        private int clockAt(int speed) {
            return speed == 0 ? slow : fast;
        }

        private boolean listens() {
            return phase >= TAKES_COMMAND && phase <= TAKES_DATA;
        }

        private boolean tells() {
            return phase >= TELLS_BIT;
        }

        private int doing() {
            if (dead) {
                return 3;
            }
            return listens() ? 1 : tells() ? 2 : 0;
        }

        // ---- a SLOT begins

        private void meetEdge(long now, int low, int rise, boolean wasLow) {
            if (wasLow || dead || now < busyUntil) {
                edge = MISSED;
            } else if (low >= shortestReset(ownSpeed)) {
                edge = IS_RESET;
                if (low >= SLOW_RESET) {
                    ownSpeed = 0;
                }
                int clock = clockAt(ownSpeed);
                holdFor(now + low + rise + clock, 4 * clock);
            } else {
                edge = SEEN;
                int clock = clockAt(ownSpeed);
                if (listens()) {
                    busyUntil = now + clock;
                } else if (tells() && bitTold() == 0) {
                    holdFor(now, zeroHold(clock));
                }
            }
        }

        private void holdFor(long from, int us) {
            holdFrom = from;
            holdUntil = from + us;
            busyUntil = holdUntil;
        }

        private int bitTold() {
            switch (phase) {
                case TELLS_BIT: return (int) (address >> next & 1);
                case TELLS_COMPLEMENT: return (int) (~address >> next & 1);
                case TELLS_CONVERTING: return kind.convertsWithin(1) > 0 && !fed ? 0 : 1;
                case TELLS_FED: return fed ? 0 : 1;
                case TELLS_STATUS:
                    if (next == 0) {
                        bits = kind.statusByte();
                    }
                    return (int) (bits >> next & 1);
                default: return (int) (bits >> next & 1);
            }
        }

        // ---- its CHARGE

        /** Whether it came to be DEAD. */
        private boolean spend(int us, int lows, int lowConverting, boolean strongly) {
            if (!fed) {
                return false;
            }
            boolean died = false;
            int converting = strongly ? 0 : 3;
            int rest = us - lows;
            int others = kind.convertsWithin(us) - lowConverting;
            for (int part = 0; part < 3; part++) {
                if (part == 0) {
                    charge -= lows + converting * lowConverting;
                } else if (part == 1 && !dead) {
                    charge += others - converting * others;
                    rest -= others;
                } else if (part == 2) {
                    charge += rest;
                }
                charge = Math.min(charge, FULL_CHARGE);
                if (charge < 0) {
                    charge = 0;
                    died |= !dead;
                    die();
                    kind.loseStore();
                }
                if (dead && charge >= REVIVING_CHARGE) {
                    dead = false;
                }
            }
            return died;
        }

        private void die() {
            dead = true;
            mine = false;
            ownSpeed = 0;
            phase = DEAF;
            holdFrom = LONG_AGO;
            holdUntil = LONG_AGO;
            busyUntil = LONG_AGO;
            // What it took in this SLOT is lost, even if it is alive again at once.
            edge = MISSED;
        }

        // ---- a SLOT is over

        private void goOn() {
            if (edge == IS_RESET) {
                begin(TAKES_COMMAND, 8);
            } else if (edge == SEEN && tells()) {
                tellOn();
            } else if (edge == SEEN && (phase == TAKES_ADDRESS || phase == TAKES_CHOICE)) {
                takeAddressBit();
            } else if (edge == SEEN && listens() && takeLastBit()) {
                int taken = phase;
                phase = DEAF;
                if (taken == TAKES_COMMAND) {
                    followCommand((int) bits);
                } else if (taken == TAKES_KIND_COMMAND) {
                    kind.follow((int) bits, this);
                } else {
                    kind.takeData(bits, this);
                }
            }
        }

        /** Takes a bit: whether it was the last one. */
        private boolean takeLastBit() {
            bits |= (long) heard << next;
            next++;
            return next >= wanted;
        }

        private void tellOn() {
            switch (phase) {
                case TELLS_BIT:
                    phase = TELLS_COMPLEMENT;
                    break;
                case TELLS_COMPLEMENT:
                    phase = TAKES_CHOICE;
                    break;
                case TELLS_BITS:
                    next++;
                    phase = next < wanted ? TELLS_BITS : DEAF;
                    break;
                case TELLS_STATUS:
                    next = next + 1 & 7;
                    break;
                default:
                    break;
            }
        }

        private void takeAddressBit() {
            if ((address >> next & 1) != heard) {
                phase = DEAF;
                return;
            }
            next++;
            if (next < ADDRESS_BITS) {
                phase = phase == TAKES_CHOICE ? TELLS_BIT : TAKES_ADDRESS;
            } else {
                mine = true;
                begin(TAKES_KIND_COMMAND, 8);
            }
        }

        private void followCommand(int command) {
            boolean wasMine = mine;
            mine = command == 165 && wasMine;
            if (command == 51) {
                tell(address, ADDRESS_BITS);
            } else if (command == 85) {
                begin(TAKES_ADDRESS, ADDRESS_BITS);
            } else if (command == 204 || command == 165 && wasMine) {
                begin(TAKES_KIND_COMMAND, 8);
            } else if (command == 240 || command == 236 && kind.alarm) {
                begin(TELLS_BIT, ADDRESS_BITS);
            } else if ((command == 60 || command == 105) && knows(1)) {
                ownSpeed = 1;
                begin(command == 60 ? TAKES_KIND_COMMAND : TAKES_ADDRESS, command == 60 ? 8 : ADDRESS_BITS);
            }
        }

        /** Begins something of n bits. */
        private void begin(int newPhase, int n) {
            phase = newPhase;
            next = 0;
            wanted = n;
            bits = 0;
        }

        private void tell(long told, int n) {
            begin(TELLS_BITS, n);
            bits = told;
        }

        /** Tells n bits and their CHECKSUM behind them. */
        private void tellChecked(long told, int n) {
            begin(TELLS_BITS, n + 8);
            bits = told | (long) checksumOf(told, n) << n;
        }
    }

    /** What DEVICES of one FAMILY have in them; a DEVICE is DEAF behind a COMMAND that its KIND leaves alone. */
    private abstract static class Kind {
        boolean alarm;

        /** A COMMAND for the KIND has been taken. */
        abstract void follow(int command, Device device);

        /** So many bits as were asked for behind a COMMAND have been taken. */
        abstract void takeData(long data, Device device);

        abstract void loseStore();

        abstract int property(int what);

        /** In how many of the next US it CONVERTS. */
        int convertsWithin(int us) {
            return 0;
        }

        void convertFor(int us) {
        }

        int statusByte() {
            return 0;
        }
    }

    private static final class Thermometer extends Kind {
        private static final int FIRST_HEAT = 1360;

        private int outside = 320;
        private int heatStored = FIRST_HEAT;
        private int high = 75;
        private int low = 70;
        private int fine = 3;
        private int savedHigh = 75;
        private int savedLow = 70;
        private int savedFine = 3;
        private int left;

        private int wholeConversion() {
            return 900 << fine;
        }

        void follow(int command, Device device) {
            switch (command) {
                case 68:
                    left = wholeConversion();
                    device.begin(Device.TELLS_CONVERTING, 0);
                    break;
                case 72:
                    savedHigh = high;
                    savedLow = low;
                    savedFine = fine;
                    break;
                case 78:
                    device.begin(Device.TAKES_DATA, 24);
                    break;
                case 180:
                    device.begin(Device.TELLS_FED, 0);
                    break;
                case 184:
                    recall();
                    break;
                case 190:
                    device.tellChecked(storedBits(), 40);
                    break;
                default:
                    break;
            }
        }

        void takeData(long data, Device device) {
            high = (byte) data;
            low = (byte) (data >> 8);
            fine = (int) (data >> 21) & 3;
        }

        private long storedBits() {
            return heatStored & 0xffffL | (high & 255L) << 16 | (low & 255L) << 24 | (31L + 32 * fine) << 32;
        }

        private void recall() {
            high = savedHigh;
            low = savedLow;
            fine = savedFine;
        }

        void loseStore() {
            heatStored = FIRST_HEAT;
            left = 0;
            alarm = false;
            recall();
        }

        int property(int what) {
            switch (what) {
                case 6: return left > 0 ? 1 : 0;
                case 7: return heatStored;
                case 8: return high;
                case 9: return low;
                default: return fine;
            }
        }

        int convertsWithin(int us) {
            return Math.min(left, us);
        }

        void convertFor(int us) {
            if (left == 0) {
                return;
            }
            left = Math.max(0, left - us);
            if (left == 0) {
                heatStored = outside & -(1 << 3 - fine);
                int degrees = heatStored >> 4;
                alarm = degrees >= high || degrees <= low;
            }
        }
    }

    private static final class Switch extends Kind {
        private int pins;
        private int outputs;

        /** Whether that is another. */
        private boolean setPin(int pin, boolean is, boolean dead) {
            boolean was = (pins >> pin & 1) == 1;
            if (was == is) {
                return false;
            }
            pins ^= 1 << pin;
            alarm |= !dead;
            return true;
        }

        void follow(int command, Device device) {
            if (command == 245) {
                alarm = false;
                device.begin(Device.TELLS_STATUS, 8);
            } else if (command == 90) {
                device.begin(Device.TAKES_DATA, 16);
            }
        }

        void takeData(long data, Device device) {
            if ((data >> 8 & 255) == (~data & 255)) {
                outputs = (int) data & 3;
                device.tell(DONE, 8);
            }
        }

        void loseStore() {
            outputs = 0;
            alarm = false;
        }

        int statusByte() {
            int low = pins & 1 | (outputs & 1) << 1 | (pins & 2) << 1 | (outputs & 2) << 2;
            return low | (~low & 15) << 4;
        }

        int property(int what) {
            return what == 7 ? pins : what == 8 ? outputs : 0;
        }
    }

    private static final class Memory extends Kind {
        private final int[] bytes = new int[16];
        private int targetByte;
        private int pad;
        private int following;

        void follow(int command, Device device) {
            following = command;
            if (command == 15) {
                device.begin(Device.TAKES_DATA, 40);
            } else if (command == 85 || command == 240) {
                device.begin(Device.TAKES_DATA, 8);
            } else if (command == 170) {
                device.tellChecked(targetByte | (pad & 0xffffffffL) << 8, 40);
            }
        }

        void takeData(long data, Device device) {
            if (following == 15) {
                targetByte = (int) data & 15;
                pad = (int) (data >> 8);
                device.tell(checksumOf(data, 40), 8);
            } else if (following == 240) {
                device.tellChecked(fourBytes((int) data), 32);
            } else if (data == targetByte) {
                putPad();
                device.tell(DONE, 8);
            }
        }

        private long fourBytes(int from) {
            long four = 0;
            for (int i = 0; i < 4; i++) {
                four |= (long) bytes[from + i & 15] << 8 * i;
            }
            return four;
        }

        private void putPad() {
            for (int i = 0; i < 4; i++) {
                bytes[targetByte + i & 15] = pad >> 8 * i & 255;
            }
        }

        void loseStore() {
            targetByte = 0;
            pad = 0;
        }

        int property(int what) {
            return what == 7 ? targetByte : what == 8 ? pad : 0;
        }
    }

    private static final class Counter extends Kind {
        private int pulses;
        private int alarmLimit;

        private void add(int n) {
            pulses = pulses + n & BITS_31;
            alarm |= alarmLimit > 0 && pulses >= alarmLimit;
        }

        void follow(int command, Device device) {
            if (command == 66) {
                device.tellChecked(pulses, 32);
            } else if (command == 77) {
                device.begin(Device.TAKES_DATA, 32);
            } else if (command == 83) {
                pulses = 0;
                alarm = false;
            }
        }

        void takeData(long data, Device device) {
            alarmLimit = (int) data & BITS_31;
        }

        void loseStore() {
            pulses = 0;
            alarmLimit = 0;
            alarm = false;
        }

        int property(int what) {
            return what == 7 ? pulses : what == 8 ? alarmLimit : 0;
        }
    }
}
