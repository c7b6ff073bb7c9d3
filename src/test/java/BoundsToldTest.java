/** Boundary cases of promises 34 to 40. */
public final class BoundsToldTest {
    private static final int THERMOMETER = 40;
    private static final int SWITCH = 58;
    private static final int MEMORY = 35;
    private static final int COUNTER = 29;
    private static final int NONE = LoneWire.NONE;
    private static final int LEAST = Integer.MIN_VALUE;
    private static final int MOST = Integer.MAX_VALUE;

    public static void main(String[] args) {
        lastsByCharge();
        lastsByFine();
        lastsOfTheDead();
        lastsOfOthers();
        lastsIsTrue();
        branchPlaces();
        branchByFirstUnlike();
        partsOfNone();
        partsAtEachBit();
        limitOfOthers();
        limitForNobody();
        limitOnTheLine();
        limitOnTheLineAtSpeed1();
        limitNone();
        limitOfTheDead();
        blameOfOthers();
        blameOnBothSides();
        blameOnBothSidesAtSpeed1();
        blameByRise();
        blameOfItself();
        checksumBits();
        countWhat();
        countsGoUp();
        countMissed();
        Check.end();
    }

    private static LoneWire with(int family, int slow, int fast, boolean fed) {
        LoneWire x = new LoneWire();
        x.attach(family, 0, slow, fast, fed);
        return x;
    }

    // ---- promise 34

    private static LoneWire fedWith(int fine, int charge) {
        LoneWire x = with(THERMOMETER, 30, 0, true);
        Check.tellAll(x, 78, 75, 70, 32 * fine);
        x.idle(2000);
        Check.drain(x, 2000 - charge);
        Check.dueDevice("CHARGE", x, 0, 4, charge);
        return x;
    }

    /** "CHARGE 2 less in each, as long as that is not below 0". */
    private static void lastsByCharge() {
        int[] charges = {0, 1, 2, 3, 4, 999, 1000, 1797, 1798, 1799, 1800, 1801, 1802, 2000};
        for (int charge : charges) {
            Check.due("FINE 0, CHARGE " + charge, Math.min(900, charge / 2), fedWith(0, charge).lasts(0));
            Check.due("FINE 1, CHARGE " + charge, charge / 2, fedWith(1, charge).lasts(0));
            Check.due("FINE 3, CHARGE " + charge, charge / 2, fedWith(3, charge).lasts(0));
        }
    }

    /** "How many of the US of a whole CONVERSION (by its FINE)": "(not FED: all ..)". */
    private static void lastsByFine() {
        int[] due = {900, 1800, 3600, 7200};
        for (int fine = 0; fine < 4; fine++) {
            LoneWire x = with(THERMOMETER, 30, 0, false);
            Check.tellAll(x, 78, 75, 70, 32 * fine);
            Check.due("not FED, FINE " + fine, due[fine], x.lasts(0));
            Check.tellAll(x, 68);
            x.idle(500);
            Check.due("of a whole one, though it CONVERTS", due[fine], x.lasts(0));
        }
    }

    /** "DEAD: 0", whatever its CHARGE. */
    private static void lastsOfTheDead() {
        LoneWire x = with(THERMOMETER, 30, 0, true);
        Check.drain(x, 2000);
        x.idle(1);
        Check.dueDevice("DEAD", x, 0, 3, 3);
        Check.due("DEAD", 0, x.lasts(0));
        x.idle(499);
        Check.dueDevice("CHARGE", x, 0, 4, 499);
        Check.due("DEAD yet", 0, x.lasts(0));
        x.idle(1);
        Check.due("alive again", 250, x.lasts(0));
    }

    /** "NONE: another KIND. NoSuchElementException: there is none such." */
    private static void lastsOfOthers() {
        for (int family : new int[] {SWITCH, MEMORY, COUNTER}) {
            for (boolean fed : new boolean[] {false, true}) {
                LoneWire x = with(family, 30, 0, fed);
                Check.due("another KIND", NONE, x.lasts(0));
                for (int d : new int[] {LEAST, -1, 1, 7, 8, MOST}) {
                    Check.noSuch("lasts(" + d + ")", () -> x.lasts(d));
                }
            }
        }
        LoneWire y = with(SWITCH, 30, 0, true);
        Check.drain(y, 2001);
        Check.due("another KIND, DEAD", NONE, y.lasts(0));
    }

    /** What it says comes true: so many US it lives, and not one more. */
    private static void lastsIsTrue() {
        LoneWire x = with(THERMOMETER, 30, 0, true);
        Check.tellAll(x, 68);
        int us = x.lasts(0);
        Check.due("less than a whole one", true, us < 7200);
        Check.due("it lives", 0, x.idle(us));
        Check.due("none are left", 0, x.lasts(0));
        Check.due("it does not", 1, x.idle(1));
    }

    // ---- promise 35

    /** "NONE when there is none such." */
    private static void branchPlaces() {
        LoneWire x = new LoneWire();
        for (int n = 0; n <= 8; n++) {
            for (int k : new int[] {LEAST, -1, n, n + 1, 8, MOST}) {
                Check.due(n + " there, branch(" + k + ")", NONE, x.branch(k));
            }
            if (n > 0) {
                Check.due(n + " there, the last", true, x.branch(n - 1) != NONE);
            }
            if (n < 8) {
                x.attach(MEMORY, n, 30, 0, false);
            }
        }
        // SERIALS by their lowest bits first.
        int[] due = {0, 4, 2, 6, 1, 5, 3, 7};
        for (int k = 0; k < 8; k++) {
            Check.due("branch(" + k + ")", due[k], x.branch(k));
        }
        for (int d = 0; d < 8; d += 2) {
            x.detach(d);
        }
        int[] odd = {1, 5, 3, 7, NONE, NONE, NONE, NONE};
        for (int k = 0; k < 8; k++) {
            Check.due("the odd ones, branch(" + k + ")", odd[k], x.branch(k));
        }
    }

    /** "of two that comes ahead which has 0 in the first bit in which ADDRESSES are unlike". */
    private static void branchByFirstUnlike() {
        for (int bit = 0; bit < 31; bit++) {
            for (int rest : new int[] {0, MOST}) {
                LoneWire x = new LoneWire();
                x.attach(MEMORY, rest | 1 << bit, 30, 0, false);
                // Unlike at that bit and, the other way, in all above it.
                int below = (1 << bit) - 1;
                x.attach(MEMORY, (rest & below | ~rest & ~below) & ~(1 << bit) & MOST, 30, 0, false);
                Check.due("bit " + (8 + bit), 1, x.branch(0));
                Check.due("bit " + (8 + bit), 0, x.branch(1));
                Check.due("they part there", 8 + bit, x.parts(0, 1));
            }
        }
    }

    // ---- promise 36

    /** "NONE when there are none such, or both are one." */
    private static void partsOfNone() {
        LoneWire x = new LoneWire();
        Check.due("nobody there", NONE, x.parts(0, 0));
        Check.due("nobody there", NONE, x.parts(0, 1));
        x.attach(MEMORY, 0, 30, 0, false);
        x.attach(COUNTER, 0, 30, 0, false);
        Check.due("both are one", NONE, x.parts(0, 0));
        Check.due("both are one", NONE, x.parts(1, 1));
        Check.due("two", 1, x.parts(0, 1));
        for (int d : new int[] {LEAST, -1, 2, 7, 8, MOST}) {
            Check.due("parts(0, " + d + ")", NONE, x.parts(0, d));
            Check.due("parts(" + d + ", 1)", NONE, x.parts(d, 1));
            Check.due("parts(" + d + ", " + d + ")", NONE, x.parts(d, d));
        }
        x.detach(1);
        Check.due("it has gone", NONE, x.parts(0, 1));
    }

    private static void partsAtEachBit() {
        for (int bit = 0; bit < 31; bit++) {
            LoneWire x = new LoneWire();
            x.attach(SWITCH, 0, 30, 0, false);
            x.attach(SWITCH, 1 << bit, 30, 0, false);
            Check.due("SERIAL's bit " + bit, 8 + bit, x.parts(0, 1));
            Check.due("the other way", 8 + bit, x.parts(1, 0));
        }
        int[] families = {MEMORY, COUNTER, THERMOMETER, SWITCH};
        LoneWire x = new LoneWire();
        for (int d = 0; d < 4; d++) {
            x.attach(families[d], 77, 30, 0, false);
        }
        for (int one = 0; one < 4; one++) {
            for (int other = 0; other < 4; other++) {
                int due = one == other ? NONE : Integer.numberOfTrailingZeros(families[one] ^ families[other]);
                Check.due("parts(" + one + ", " + other + ")", due, x.parts(one, other));
            }
        }
    }

    // ---- promise 37

    /** "NONE: others than 0 .. 3, no such SPEED". */
    private static void limitOfOthers() {
        LoneWire x = with(MEMORY, 30, 4, false);
        for (int what : new int[] {LEAST, -1, 4, 5, 7, 8, MOST}) {
            Check.due("limit(0, " + what + ")", NONE, x.limit(0, what, false));
            Check.due("limit(1, " + what + ")", NONE, x.limit(1, what, true));
        }
        for (int speed : new int[] {LEAST, -1, 2, MOST}) {
            for (int what = 0; what < 4; what++) {
                Check.due("limit(" + speed + ", " + what + ")", NONE, x.limit(speed, what, false));
                Check.due("limit(" + speed + ", " + what + ")", NONE, x.limit(speed, what, true));
            }
        }
    }

    /** "nobody there who knows it". */
    private static void limitForNobody() {
        LoneWire x = new LoneWire();
        for (int what = 0; what < 4; what++) {
            Check.due("nobody there", NONE, x.limit(0, what, false));
            Check.due("nobody there", NONE, x.limit(1, what, true));
        }
        x.attach(MEMORY, 0, 30, 0, false);
        for (int what = 0; what < 4; what++) {
            Check.due("one without FAST knows SPEED 0", true, x.limit(0, what, false) != NONE);
            Check.due("one without FAST knows SPEED 0", true, x.limit(0, what, true) != NONE);
            Check.due("but not SPEED 1", NONE, x.limit(1, what, false));
            Check.due("but not SPEED 1", NONE, x.limit(1, what, true));
        }
        x.attach(MEMORY, 1, 60, 6, false);
        Check.due("one of two knows SPEED 1", 5, x.limit(1, 0, true));
        Check.due("both know SPEED 0", 29, x.limit(0, 0, true));
        Check.due("both know SPEED 0", 60, x.limit(0, 1, false));
        x.detach(1);
        Check.due("it has gone", NONE, x.limit(1, 0, true));
        Check.due("it has gone", 30, x.limit(0, 1, false));
        x.detach(0);
        Check.due("both have gone", NONE, x.limit(0, 0, true));
    }

    private static LoneWire counters(int speed, int[] clocks) {
        LoneWire x = new LoneWire();
        for (int d = 0; d < clocks.length; d++) {
            x.attach(COUNTER, d, speed == 0 ? clocks[d] : 20, speed == 0 ? 0 : clocks[d], false);
            x.pulse(d, 2);
        }
        Check.due("somebody's PRESENCE", true, speed == 0 ? x.reset() : x.raise());
        return x;
    }

    /** Whether each takes a bit of that low rightly: the first one of 51, or of 50. */
    private static boolean allTake(int speed, int[] clocks, int low, int bit) {
        LoneWire x = counters(speed, clocks);
        x.slot(low, 0, low + 400);
        x.write(51 >> 1, 7);
        boolean all = true;
        for (int d = 0; d < clocks.length; d++) {
            all &= x.device(d, 3) == (bit == 1 ? 2 : 0);
        }
        return all;
    }

    /** Whether what one tells alone, 0, then 1, is READ so. */
    private static boolean isRead(int speed, int[] clocks, int d, int low, int sample) {
        LoneWire x = counters(speed, clocks);
        for (int bit = 0; bit < 8; bit++) {
            x.write(85 >> bit, 1);
        }
        long address = COUNTER | (long) d << 8 | (long) x.device(d, 11) << 56;
        for (int bit = 0; bit < 64; bit++) {
            x.write((int) (address >> bit & 1), 1);
        }
        x.write(66, 8);
        Check.dueDevice("it TELLS", x, d, 3, 2);
        int length = Math.max(low, sample) + 400;
        return x.slot(low, sample, length) == 0 && x.slot(low, sample, length) == 1;
    }

    private static boolean allAreRead(int speed, int[] clocks, int low, int sample) {
        boolean all = true;
        for (int d = 0; d < clocks.length && all; d++) {
            all = isRead(speed, clocks, d, low, sample);
        }
        return all;
    }

    /** LIMITS as they show on the line, by all US up to some bound. */
    private static void dueLimitOnTheLine(int speed, int[] clocks, int what, int bound, int[] times) {
        int least = NONE;
        int greatest = NONE;
        for (int v = 1; v <= bound; v++) {
            boolean right = what < 2 ? allTake(speed, clocks, v, what == 0 ? 1 : 0)
                : what == 2 ? allAreRead(speed, clocks, v, times[1])
                : v < times[2] && allAreRead(speed, clocks, times[0], v);
            least = right && least == NONE ? v : least;
            greatest = right ? v : greatest;
        }
        LoneWire x = counters(speed, clocks);
        for (int i = 0; i < 3; i++) {
            x.time(speed, 2 + i, times[i]);
        }
        String name = "limit(" + speed + ", " + what + ") of " + clocks.length + " from " + clocks[0];
        Check.due(name + ": least", least, x.limit(speed, what, false));
        Check.due(name + ": greatest", greatest, x.limit(speed, what, true));
    }

    /** "the least and the greatest US of it by which each of them takes a 1 (0), a 0 (1; below 480 ..) rightly ..". */
    private static void limitOnTheLine() {
        int[][] all = {{15}, {60}, {30, 15, 60}, {17, 17, 17, 41, 60, 59}, {60, 15, 20, 20, 20, 20, 20, 33}};
        int[] times = {6, 14, 95};
        for (int[] clocks : all) {
            dueLimitOnTheLine(0, clocks, 0, 120, times);
            dueLimitOnTheLine(0, clocks, 1, 490, times);
            dueLimitOnTheLine(0, clocks, 2, 120, times);
            dueLimitOnTheLine(0, clocks, 3, 120, times);
        }
        // "(.. of 3: less than 4)".
        dueLimitOnTheLine(0, all[1], 3, 120, new int[] {6, 14, 20});
        dueLimitOnTheLine(0, all[1], 3, 120, new int[] {6, 14, 8});
        dueLimitOnTheLine(0, all[1], 3, 120, new int[] {6, 14, 7});
        // A sample at which a 0 is just READ, and one US later.
        dueLimitOnTheLine(0, all[0], 2, 120, new int[] {6, 22, 95});
        dueLimitOnTheLine(0, all[0], 2, 120, new int[] {6, 23, 95});
        dueLimitOnTheLine(0, all[0], 2, 120, new int[] {6, 2, 95});
        dueLimitOnTheLine(0, all[0], 2, 120, new int[] {6, 1, 95});
        // A low for READING behind which nothing can be READ rightly.
        dueLimitOnTheLine(0, all[0], 3, 120, new int[] {21, 14, 95});
        dueLimitOnTheLine(0, all[0], 3, 120, new int[] {22, 14, 95});
    }

    /** "(.. below .. 48)". */
    private static void limitOnTheLineAtSpeed1() {
        int[][] all = {{2}, {6}, {4, 3, 6}};
        int[] times = {1, 3, 14};
        for (int[] clocks : all) {
            for (int what = 0; what < 4; what++) {
                dueLimitOnTheLine(1, clocks, what, 60, times);
            }
        }
    }

    /** "or there are none": and a least that would be below 1 is 1. */
    private static void limitNone() {
        LoneWire x = new LoneWire();
        x.attach(MEMORY, 0, 15, 2, false);
        for (int n = 1; n <= 8; n++) {
            int rise = x.count(8);
            Check.due(n + " there: a 1 for FAST 2", rise < 2 ? 2 - rise : NONE, x.limit(1, 0, true));
            Check.due(n + " there: a 1 for FAST 2", rise < 2 ? 1 : NONE, x.limit(1, 0, false));
            Check.due(n + " there: a 0 for FAST 2", Math.max(1, 3 - rise), x.limit(1, 1, false));
            Check.due(n + " there: a 0 for FAST 2", 47, x.limit(1, 1, true));
            if (n < 8) {
                x.attach(MEMORY, n, 15, 0, false);
            }
        }
    }

    /** "for those that are there": one that is DEAD is. */
    private static void limitOfTheDead() {
        LoneWire x = with(MEMORY, 15, 0, true);
        x.attach(MEMORY, 1, 60, 0, false);
        Check.drain(x, 2001);
        Check.dueDevice("DEAD", x, 0, 3, 3);
        Check.due("it is there all the same", 14, x.limit(0, 0, true));
        Check.due("and is blamed", 0, x.blame(0, 0));
    }

    // ---- promise 38

    /** "NONE: no such SPEED, or it does not know it. NoSuchElementException: there is none such." */
    private static void blameOfOthers() {
        LoneWire x = with(MEMORY, 30, 0, false);
        x.attach(MEMORY, 1, 30, 2, false);
        for (int speed : new int[] {LEAST, -1, 2, MOST}) {
            Check.due("blame(0, " + speed + ")", NONE, x.blame(0, speed));
            Check.due("blame(1, " + speed + ")", NONE, x.blame(1, speed));
        }
        Check.due("it knows SPEED 0", 0, x.blame(0, 0));
        Check.due("it does not know SPEED 1", NONE, x.blame(0, 1));
        Check.due("it knows SPEED 1", true, x.blame(1, 1) >= 0);
        for (int d : new int[] {LEAST, -1, 2, 7, 8, MOST}) {
            for (int speed = -1; speed <= 2; speed++) {
                int s = speed;
                Check.noSuch("blame(" + d + ", " + speed + ")", () -> x.blame(d, s));
            }
        }
    }

    /** One of TIMES is told as v, blame(0, speed) is due, and it is put back. */
    private static void dueBlame(LoneWire x, int speed, int what, int v, int due) {
        int was = x.time(speed, what, v);
        Check.due("TIME " + what + " is " + v + " at SPEED " + speed, due, x.blame(0, speed));
        x.time(speed, what, was);
    }

    /** A pair: just right, and just not. */
    private static void dueEdge(LoneWire x, int speed, int what, int right, int wrong, int bit) {
        dueBlame(x, speed, what, right, 0);
        dueBlame(x, speed, what, wrong, bit);
    }

    private static void blameOnBothSides() {
        LoneWire x = with(MEMORY, 30, 4, false);
        dueEdge(x, 0, 0, 29, 30, 1);
        dueEdge(x, 0, 1, 30, 29, 2);
        dueEdge(x, 0, 1, 479, 480, 2);
        dueEdge(x, 0, 3, 45, 46, 4);
        dueEdge(x, 0, 3, 7, 6, 8);
        dueEdge(x, 0, 2, 13, 14, 8);
        dueEdge(x, 0, 4, 46, 45, 16);
        dueEdge(x, 0, 6, 31, 30, 32);
        dueEdge(x, 0, 6, 151, 152, 32);
        dueEdge(x, 0, 7, 152, 151, 64);
        dueEdge(x, 0, 5, 480, 479, 128);
        // A low for READING longer than it tells a 0: that is READ as 0 by the low itself.
        x.time(0, 3, 50);
        dueBlame(x, 0, 2, 49, 4);
        dueBlame(x, 0, 2, 50, 8);
        x.time(0, 3, 14);
        // 1 and 1000 of each.
        dueBlame(x, 0, 0, 1, 0);
        dueBlame(x, 0, 0, 1000, 1);
        dueBlame(x, 0, 1, 1, 2);
        dueBlame(x, 0, 1, 1000, 2);
        dueBlame(x, 0, 2, 1, 0);
        dueBlame(x, 0, 2, 1000, 8 + 16);
        dueBlame(x, 0, 3, 1, 8);
        dueBlame(x, 0, 3, 1000, 4);
        dueBlame(x, 0, 4, 1, 16);
        dueBlame(x, 0, 4, 1000, 0);
        dueBlame(x, 0, 5, 1, 128);
        dueBlame(x, 0, 5, 1000, 0);
        dueBlame(x, 0, 6, 1, 32);
        dueBlame(x, 0, 6, 1000, 32);
        dueBlame(x, 0, 7, 1, 64);
        dueBlame(x, 0, 7, 1000, 0);
    }

    private static void blameOnBothSidesAtSpeed1() {
        LoneWire x = with(MEMORY, 30, 4, false);
        dueEdge(x, 1, 0, 3, 4, 1);
        dueEdge(x, 1, 1, 4, 3, 2);
        dueEdge(x, 1, 1, 47, 48, 2);
        // A 0 is told for 6 US, LOW till 7.
        dueEdge(x, 1, 3, 6, 7, 4);
        dueEdge(x, 1, 3, 2, 1, 8);
        dueEdge(x, 1, 2, 2, 3, 8);
        dueEdge(x, 1, 4, 7, 6, 16);
        // PRESENCE from 5 on till 21, LOW till 22.
        dueEdge(x, 1, 6, 5, 4, 32);
        dueEdge(x, 1, 6, 21, 22, 32);
        dueEdge(x, 1, 7, 22, 21, 64);
        dueEdge(x, 1, 5, 48, 47, 128);
        dueBlame(x, 1, 5, 1000, 0);
    }

    /** With RISE of 3. */
    private static void blameByRise() {
        LoneWire x = with(MEMORY, 30, 6, false);
        for (int i = 1; i < 6; i++) {
            x.attach(COUNTER, i, 15, 0, false);
        }
        dueEdge(x, 0, 0, 27, 28, 1);
        dueEdge(x, 0, 1, 28, 27, 2);
        dueEdge(x, 0, 3, 47, 48, 4);
        dueEdge(x, 0, 3, 9, 8, 8);
        dueEdge(x, 0, 4, 48, 47, 16);
        dueEdge(x, 0, 6, 33, 32, 32);
        dueEdge(x, 0, 6, 155, 156, 32);
        dueEdge(x, 0, 7, 156, 155, 64);
        // At SPEED 1, where the host samples less than RISE behind letting go: 8.
        Check.due("a 1 is READ as 0", 8, x.blame(0, 1));
        x.time(1, 3, 4);
        Check.due("RISE is just over", 0, x.blame(0, 1));
    }

    /** "were it alone to answer": what others are does not count; "32, 64 .. by CLOCK at that SPEED". */
    private static void blameOfItself() {
        LoneWire x = with(MEMORY, 15, 0, false);
        x.attach(MEMORY, 1, 60, 0, false);
        x.time(0, 0, 20);
        Check.due("too long for the first", 1, x.blame(0, 0));
        Check.due("not for the second", 0, x.blame(1, 0));
        x.time(0, 0, 6);
        x.time(0, 1, 40);
        Check.due("long enough for the first", 0, x.blame(0, 0));
        Check.due("not for the second", 2, x.blame(1, 0));
        x.time(0, 1, 60);
        x.time(0, 6, 77);
        Check.due("the first has let go: 77", 32, x.blame(0, 0));
        Check.due("the second holds", 0, x.blame(1, 0));
        x.time(0, 6, 76);
        Check.due("less than RISE ago: 76", 0, x.blame(0, 0));
    }

    // ---- promise 39

    /** "CHECKSUM of a number's lowest n bits (0 .. 64), the lowest first; NONE: n can't be." */
    private static void checksumBits() {
        LoneWire x = new LoneWire();
        long[] numbers = {0, 1, -1, Long.MIN_VALUE, Long.MAX_VALUE, 0x123456789abcdef0L, 140};
        for (long v : numbers) {
            for (int n = 0; n <= 64; n++) {
                Check.due("checksum(" + v + ", " + n + ")", Check.checksum(v, n), x.checksum(v, n));
            }
            for (int n : new int[] {LEAST, -1, 65, 66, MOST}) {
                Check.due("checksum(" + v + ", " + n + ")", NONE, x.checksum(v, n));
            }
        }
        Check.due("no bits", 0, x.checksum(-1, 0));
        Check.due("the highest bit counts", 140, x.checksum(Long.MIN_VALUE, 64));
        Check.due("but not among 63", 0, x.checksum(Long.MIN_VALUE, 63));
    }

    // ---- promise 40

    /** "NONE for others." */
    private static void countWhat() {
        LoneWire x = new LoneWire();
        for (int what : new int[] {LEAST, -1, 9, 10, MOST}) {
            Check.due("count(" + what + ")", NONE, x.count(what));
        }
    }

    private static void countsGoUp() {
        LoneWire x = new LoneWire();
        for (int n = 0; n <= 8; n++) {
            Check.due("DEVICES", n, x.count(0));
            Check.due("RISE", 1 + n / 3, x.count(8));
            int resets = x.count(4);
            x.reset();
            Check.due("RESETS, each one", n, x.count(4) - resets);
            Check.due("SLOTS", n + 1, x.count(3));
            Check.due("TIME", 900 * (n + 1), x.count(2));
            if (n < 8) {
                x.attach(COUNTER, n, 30, n % 2 * 4, false);
            }
        }
        x.slot(479, 0, 600);
        Check.due("479 is none", 36, x.count(4));
        Check.due("KNOWN", 0, x.count(7));
        x.roll(false);
        Check.due("KNOWN", 8, x.count(7));
    }

    /** "EDGES that some DEVICE that is not DEAD missed, each one". */
    private static void countMissed() {
        LoneWire x = new LoneWire();
        x.slot(10, 0, 10);
        x.slot(10, 0, 100);
        Check.due("nobody there", 0, x.count(5));
        for (int i = 0; i < 8; i++) {
            x.attach(MEMORY, i, 20 + 5 * i, 0, i == 0);
        }
        x.reset();
        Check.due("all have seen it", 0, x.count(5));
        x.slot(6, 0, 40);
        x.slot(6, 0, 100);
        // CLOCKS 20, 25, .. 55: those of 45, 50, 55 are BUSY yet.
        Check.due("three are BUSY", 3, x.count(5));
        x.slot(6, 0, 8);
        x.slot(6, 0, 100);
        Check.due("the line is LOW: all 8", 11, x.count(5));
        x.idle(2000);
        Check.drain(x, 2001);
        Check.due("each but the first of six SLOTS begins LOW", 11 + 5 * 8, x.count(5));
        Check.dueDevice("DEAD", x, 0, 3, 3);
        x.slot(6, 0, 100);
        Check.due("the DEAD one misses none", 11 + 5 * 8 + 7, x.count(5));
    }
}
