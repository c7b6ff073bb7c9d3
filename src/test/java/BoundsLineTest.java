/** Boundary cases of promises 9 to 17, and of the Terms' sentences on the line: on both sides of each. */
public final class BoundsLineTest {
    private static final int THERMOMETER = 40;
    private static final int SWITCH = 58;
    private static final int MEMORY = 35;
    private static final int NONE = LoneWire.NONE;
    private static final int LEAST = Integer.MIN_VALUE;
    private static final int MOST = Integer.MAX_VALUE;

    public static void main(String[] args) {
        speedBounds();
        timeBounds();
        timeIsOfOneSpeed();
        slotBounds();
        slotRefused();
        slotSamples();
        traceLast32();
        traceWhat();
        traceOfNobody();
        resetNobody();
        resetLength();
        resetSamplesTheLine();
        writeBits();
        writeLowestBits();
        writeLength();
        timeGoesRound();
        timeGoesRoundInASlot();
        readBits();
        readLength();
        idleBounds();
        idleCountsTheDead();
        strongIsAnother();
        strongInWaitingAlone();
        Check.end();
    }

    private static LoneWire memories(int n, int slow) {
        LoneWire x = new LoneWire();
        for (int i = 0; i < n; i++) {
            x.attach(MEMORY, i, slow, 0, false);
        }
        return x;
    }

    // ---- promise 9

    /** "SPEED of the host (0, 1): what it was; NONE: it can't be." */
    private static void speedBounds() {
        LoneWire x = new LoneWire();
        for (int v : new int[] {LEAST, -1, 2, 3, MOST}) {
            Check.due("speed(" + v + ")", NONE, x.speed(v));
            Check.due("as it was", 0, x.count(1));
        }
        Check.due("1", 0, x.speed(1));
        for (int v : new int[] {LEAST, -1, 2, 3, MOST}) {
            Check.due("speed(" + v + ")", NONE, x.speed(v));
            Check.due("as it was", 1, x.count(1));
        }
        Check.due("0", 1, x.speed(0));
        Check.due("0 again", 0, x.speed(0));
    }

    // ---- promise 10

    /** "One of TIMES (0 .. 7; 1 .. 1000) at a SPEED is told: what it was; NONE: it can't be." */
    private static void timeBounds() {
        LoneWire x = new LoneWire();
        int[][] was = {{6, 60, 6, 14, 95, 480, 75, 420}, {1, 8, 1, 3, 14, 50, 9, 50}};
        for (int speed = 0; speed < 2; speed++) {
            for (int what = 0; what < 8; what++) {
                for (int v : new int[] {LEAST, -1, 0, 1001, 1002, MOST}) {
                    Check.due("time(" + speed + ", " + what + ", " + v + ")", NONE, x.time(speed, what, v));
                }
                Check.due("as at first", was[speed][what], x.time(speed, what, 1));
                Check.due("the least", 1, x.time(speed, what, 2));
                Check.due("2", 2, x.time(speed, what, 999));
                Check.due("999", 999, x.time(speed, what, 1000));
                Check.due("the greatest", 1000, x.time(speed, what, 10 * speed + what + 1));
            }
            for (int what : new int[] {LEAST, -1, 8, 9, MOST}) {
                Check.due("no such of TIMES", NONE, x.time(speed, what, 5));
            }
        }
        for (int speed : new int[] {LEAST, -1, 2, MOST}) {
            Check.due("no such SPEED", NONE, x.time(speed, 0, 5));
            Check.due("no such SPEED", NONE, x.time(speed, 7, 5));
        }
        for (int speed = 0; speed < 2; speed++) {
            for (int what = 0; what < 8; what++) {
                Check.due("each by itself", 10 * speed + what + 1, x.time(speed, what, 5));
            }
        }
    }

    private static void timeIsOfOneSpeed() {
        LoneWire x = new LoneWire();
        x.time(0, 0, 7);
        x.time(1, 0, 3);
        x.write(1, 1);
        Check.due("of SPEED 0", 7, x.trace(0, 0));
        x.speed(1);
        x.write(1, 1);
        Check.due("of SPEED 1", 3, x.trace(0, 0));
    }

    // ---- promise 11

    /** "NONE: low is below 1, length below low or above 2000, the US below 0 or above length". */
    private static void slotBounds() {
        int[][] can = {
            {1, 0, 1}, {1, 1, 1}, {1, 0, 2000}, {1, 2000, 2000}, {2000, 0, 2000}, {2000, 2000, 2000}, {1999, 7, 1999},
            {10, 0, 10}, {10, 10, 10}, {10, 11, 11}
        };
        for (int[] s : can) {
            LoneWire x = new LoneWire();
            int due = s[1] < s[0] + 1 ? 0 : 1;
            Check.due("slot(" + s[0] + ", " + s[1] + ", " + s[2] + ")", due, x.slot(s[0], s[1], s[2]));
            Check.due("TIME", s[2], x.count(2));
            Check.due("SLOTS", 1, x.count(3));
            Check.due("low", s[0], x.trace(0, 0));
            Check.due("length", s[2], x.trace(0, 1));
        }
    }

    /** "(nothing happens)". */
    private static void slotRefused() {
        int[][] cant = {
            {0, 0, 10}, {-1, 0, 10}, {LEAST, 0, 10}, {11, 0, 10}, {1, 0, 0}, {2000, 0, 1999}, {MOST, 0, 2000},
            {1, 0, 2001}, {2001, 0, 2001}, {1, 0, MOST}, {5, -1, 10}, {5, LEAST, 10}, {5, 11, 10}, {5, MOST, 10},
            {0, 0, 0}, {-5, -5, -5}, {1, 2001, 2000}
        };
        LoneWire x = memories(1, 30);
        x.reset();
        for (int[] s : cant) {
            Check.due("slot(" + s[0] + ", " + s[1] + ", " + s[2] + ")", NONE, x.slot(s[0], s[1], s[2]));
            Check.due("TIME", 900, x.count(2));
            Check.due("SLOTS", 1, x.count(3));
            Check.due("RESETS", 1, x.count(4));
            Check.due("EDGES missed", 0, x.count(5));
            Check.due("trace", 480, x.trace(0, 0));
        }
        x.write(51, 8);
        Check.due("it has heard none of them", MEMORY, x.read(8));
    }

    /** "1 the line is not LOW then, 0 it is", with RISE of 1, 2 and 3. */
    private static void slotSamples() {
        for (int n = 0; n <= 8; n++) {
            LoneWire x = memories(n, 30);
            int rise = 1 + n / 3;
            Check.due("at 0", 0, x.slot(20, 0, 100));
            Check.due("held", 0, x.slot(20, 19, 100));
            Check.due("let go", 0, x.slot(20, 20, 100));
            Check.due("less than RISE ago", 0, x.slot(20, 19 + rise, 100));
            Check.due("RISE ago", 1, x.slot(20, 20 + rise, 100));
            Check.due("at its end", 1, x.slot(20, 100, 100));
            Check.due("as long as RISE lets it, LOW", 0, x.slot(20, 19 + rise, 19 + rise));
            Check.due("the next begins LOW", 0, x.slot(1, 0, 50));
            Check.due("nobody sees it", 0, x.trace(0, 3));
            Check.due("RISE behind its end", 1, x.slot(20, 20 + rise, 20 + rise));
            x.slot(1, 0, 50);
            Check.due("all see it", n, x.trace(0, 3));
        }
    }

    // ---- promise 12

    /** "Of the k-th SLOT ago (0 the latest, the last 32)": "NONE when there is none such". */
    private static void traceLast32() {
        LoneWire x = new LoneWire();
        for (int made = 0; made <= 70; made++) {
            for (int k : new int[] {-1, 0, 1, 30, 31, 32, 33, 63, 64}) {
                boolean is = k >= 0 && k < 32 && k < made;
                Check.due(made + " SLOTS, trace(" + k + ", 1)", is ? 100 + made - 1 - k : NONE, x.trace(k, 1));
            }
            x.slot(1, 0, 100 + made);
        }
        for (int k : new int[] {LEAST, MOST, MOST - 31}) {
            Check.due("none such", NONE, x.trace(k, 1));
        }
    }

    /** "or for others". */
    private static void traceWhat() {
        LoneWire x = memories(2, 20);
        x.reset();
        for (int what : new int[] {LEAST, -1, 6, 7, 12, MOST}) {
            Check.due("others", NONE, x.trace(0, what));
        }
        // PRESENCE from 501 till 581, RISE 1.
        int[] due = {480, 900, 0, 2, 2, 481 + 81};
        for (int what = 0; what < 6; what++) {
            Check.due("trace(0, " + what + ")", due[what], x.trace(0, what));
        }
        x.write(1, 1);
        Check.due("WRITING: nothing sampled", NONE, x.trace(0, 2));
        x.read(1);
        Check.due("READ as 1", 1, x.trace(0, 2));
        x.slot(5, 0, 50);
        Check.due("sampled as 0", 0, x.trace(0, 2));
        x.idle(1000);
        Check.due("waiting is none", 50, x.trace(0, 1));
    }

    private static void traceOfNobody() {
        LoneWire x = new LoneWire();
        x.slot(480, 481, 481);
        int[] due = {480, 481, 1, 0, 0, 481};
        for (int what = 0; what < 6; what++) {
            Check.due("nobody: trace(0, " + what + ")", due[what], x.trace(0, what));
        }
        x.slot(1, 0, 1);
        Check.due("LOW in its only US", 1, x.trace(0, 5));
    }

    // ---- promise 13

    /** "whether somebody's PRESENCE was sampled". */
    private static void resetNobody() {
        LoneWire x = new LoneWire();
        Check.due("nobody there", false, x.reset());
        x.attach(MEMORY, 0, 30, 0, true);
        Check.due("somebody", true, x.reset());
        x.idle(2000);
        Check.drain(x, 2001);
        Check.due("DEAD", false, x.reset());
        Check.due("it sees none", 0, x.trace(0, 3));
        x.idle(2000);
        Check.due("alive", true, x.reset());
        x.detach(0);
        Check.due("it has gone", false, x.reset());
        LoneWire y = memories(1, 30);
        y.time(0, 5, 479);
        Check.due("too short by one", false, y.reset());
        y.time(0, 5, 480);
        Check.due("just long enough", true, y.reset());
    }

    /** "each SLOT at least as long as low, and as the US at which it samples". */
    private static void resetLength() {
        LoneWire x = new LoneWire();
        x.time(0, 6, 419);
        x.reset();
        Check.due("7 is longer", 900, x.trace(0, 1));
        x.time(0, 6, 421);
        x.reset();
        Check.due("6 is longer", 901, x.trace(0, 1));
        for (int what = 5; what < 8; what++) {
            x.time(0, what, 1000);
        }
        x.reset();
        Check.due("the longest", 2000, x.trace(0, 1));
        for (int what = 5; what < 8; what++) {
            x.time(0, what, 1);
        }
        Check.due("its own RISE is over then: nobody", false, x.reset());
        Check.due("the shortest", 2, x.trace(0, 1));
    }

    /** The host takes for PRESENCE what it samples: here its own low, let go less than RISE ago. */
    private static void resetSamplesTheLine() {
        for (int n : new int[] {2, 3}) {
            LoneWire x = memories(n, 30);
            x.time(0, 5, 10);
            x.time(0, 6, 1);
            Check.due("RISE " + x.count(8), n == 3, x.reset());
            Check.due("nobody is RESET", 0, x.trace(0, 4));
        }
    }

    // ---- promise 14

    /** "The lowest n bits (0 .. 8) of a number are WRITTEN: TIME then; NONE: n can't be." */
    private static void writeBits() {
        LoneWire x = new LoneWire();
        int time = 0;
        for (int n = 0; n <= 8; n++) {
            time += n * 95;
            Check.due("write(0, " + n + ")", time, x.write(0, n));
        }
        for (int n : new int[] {LEAST, -1, 9, 10, MOST}) {
            Check.due("write(0, " + n + ")", NONE, x.write(0, n));
            Check.due("TIME", time, x.count(2));
            Check.due("SLOTS", 36, x.count(3));
        }
    }

    private static void writeLowestBits() {
        for (int v : new int[] {0, 1, 128, 255, 256, -1, LEAST, MOST, 0x5a5a5aa5}) {
            LoneWire x = new LoneWire();
            x.write(v, 8);
            for (int bit = 0; bit < 8; bit++) {
                Check.due("bit " + bit + " of " + v, (v >> bit & 1) == 1 ? 6 : 60, x.trace(7 - bit, 0));
            }
            x.write(v, 1);
            Check.due("the lowest of " + v, (v & 1) == 1 ? 6 : 60, x.trace(0, 0));
        }
    }

    /** A SLOT for WRITING is as long as low, but not as the US at which the host would sample. */
    private static void writeLength() {
        LoneWire x = new LoneWire();
        x.time(0, 1, 95);
        x.write(0, 1);
        Check.due("as long as low", 95, x.trace(0, 1));
        x.time(0, 1, 96);
        x.time(0, 3, 500);
        x.write(0, 1);
        Check.due("longer by one", 96, x.trace(0, 1));
        x.time(0, 0, 1000);
        x.write(1, 1);
        Check.due("a 1 as well", 1000, x.trace(0, 1));
        x.time(0, 4, 1);
        x.time(0, 0, 1);
        x.write(1, 1);
        Check.due("the shortest", 1, x.trace(0, 1));
    }

    /** "TIME then, as an int that goes round": more calls than 512, so that it comes so far. */
    private static void timeGoesRound() {
        LoneWire x = memories(1, 30);
        for (int i = 0; i < MOST / 100000; i++) {
            x.idle(100000);
        }
        x.idle(MOST % 100000);
        Check.due("the greatest", MOST, x.count(2));
        Check.due("the greatest", MOST, x.write(0, 0));
        x.idle(1);
        Check.due("the least", LEAST, x.count(2));
        Check.due("the least", LEAST, x.write(0, 0));
        Check.due("on from there", LEAST + 8 * 95, x.write(255, 8));
        for (int i = 0; i < MOST / 100000; i++) {
            x.idle(100000);
        }
        x.idle(MOST % 100000 - 8 * 95 - 900);
        Check.due("its PRESENCE", true, x.reset());
        Check.due("-1 is no NONE here", -1, x.write(0, 0));
        x.idle(1);
        Check.due("once round", 0, x.count(2));
    }

    /** One that listens, tells and shows its PRESENCE while TIME goes round. */
    private static void timeGoesRoundInASlot() {
        for (int ahead : new int[] {1, 479, 480, 511, 631, 632, 899, 900, 950, 1700, 2000}) {
            LoneWire x = memories(1, 30);
            for (int i = 0; i < MOST / 100000; i++) {
                x.idle(100000);
            }
            x.idle(MOST % 100000 + 1 - ahead);
            Check.due("its PRESENCE", true, x.reset());
            Check.due("LOW", 481 + 121, x.trace(0, 5));
            x.write(51, 8);
            Check.due("FAMILY", MEMORY, x.read(8));
            Check.due("no EDGE is missed", 0, x.count(5));
            Check.due("TIME", LEAST - ahead + 900 + 16 * 95, x.count(2));
        }
    }

    // ---- promise 15

    /** "n bits (0 .. 8) are READ: as a number; NONE: n can't be." */
    private static void readBits() {
        LoneWire x = new LoneWire();
        for (int n = 0; n <= 8; n++) {
            int slots = x.count(3);
            Check.due("read(" + n + ") of nobody", (1 << n) - 1, x.read(n));
            Check.due("SLOTS", n, x.count(3) - slots);
        }
        for (int n : new int[] {LEAST, -1, 9, 10, MOST}) {
            Check.due("read(" + n + ")", NONE, x.read(n));
            Check.due("SLOTS", 36, x.count(3));
        }
        LoneWire y = memories(1, 30);
        for (int n = 1; n <= 8; n++) {
            y.reset();
            y.write(51, 8);
            Check.due("the lowest " + n + " of FAMILY", MEMORY & (1 << n) - 1, y.read(n));
            Check.due("and the others", MEMORY >> n, y.read(8 - n));
        }
    }

    private static void readLength() {
        LoneWire x = new LoneWire();
        x.time(0, 3, 95);
        x.read(1);
        Check.due("as long as 4", 95, x.trace(0, 1));
        x.time(0, 3, 96);
        Check.due("it samples at its end", 1, x.read(1));
        Check.due("longer by one", 96, x.trace(0, 1));
        x.time(0, 2, 97);
        Check.due("it samples while it is LOW", 0, x.read(1));
        Check.due("as long as low", 97, x.trace(0, 1));
        x.time(0, 2, 95);
        Check.due("RISE is just over", 1, x.read(1));
        x.time(0, 2, 96);
        Check.due("RISE is not over", 0, x.read(1));
    }

    // ---- promise 16

    /** "Waiting for so many US (0 .. 100000) ..; NONE: it can't be." */
    private static void idleBounds() {
        LoneWire x = memories(1, 30);
        int time = 0;
        for (int us : new int[] {0, 1, 99999, 100000}) {
            Check.due("idle(" + us + ")", 0, x.idle(us));
            time += us;
            Check.due("TIME", time, x.count(2));
        }
        for (int us : new int[] {LEAST, -1, 100001, MOST}) {
            Check.due("idle(" + us + ")", NONE, x.idle(us));
            Check.due("TIME", time, x.count(2));
        }
        Check.due("no SLOT", 0, x.count(3));
        Check.due("no EDGE", 0, x.count(5));
    }

    /** "how many DEVICES have come to be DEAD in these". */
    private static void idleCountsTheDead() {
        LoneWire x = new LoneWire();
        for (int i = 0; i < 8; i++) {
            x.attach(THERMOMETER, i, 15, 0, true);
        }
        Check.tellAll(x, 68);
        int most = x.lasts(0);
        Check.due("not yet", 0, x.idle(most));
        Check.due("all 8 in one US", 8, x.idle(1));
        Check.due("DEAD they come to be so no more", 0, x.idle(100));
        Check.due("8 in all", 8, x.count(6));
        LoneWire y = new LoneWire();
        y.attach(THERMOMETER, 0, 15, 0, true);
        y.attach(THERMOMETER, 1, 15, 0, false);
        y.attach(MEMORY, 2, 15, 0, true);
        Check.tellAll(y, 68);
        Check.due("one of three, and it is alive again behind them", 1, y.idle(100000));
        Check.dueDevice("alive", y, 0, 3, 0);
        Check.due("none more", 0, y.idle(100000));
        Check.due("one in all", 1, y.count(6));
        LoneWire z = new LoneWire();
        z.attach(MEMORY, 0, 15, 0, true);
        Check.drain(z, 2000);
        z.strong(true);
        Check.due("by RISE, STRONGLY or not", 1, z.idle(1));
        Check.due("one in all", 1, z.count(6));
    }

    // ---- promise 17

    /** "The host pulls STRONGLY .., or not: whether that is another." */
    private static void strongIsAnother() {
        LoneWire x = new LoneWire();
        boolean was = false;
        for (boolean is : new boolean[] {false, false, true, true, true, false, false, true, false}) {
            Check.due("strong(" + is + ") behind " + was, is != was, x.strong(is));
            was = is;
        }
    }

    /** "(in waiting alone)": by it one CONVERTS as long as it likes; in a SLOT it runs out all the same. */
    private static void strongInWaitingAlone() {
        LoneWire x = new LoneWire();
        x.attach(THERMOMETER, 0, 15, 0, true);
        x.attach(SWITCH, 0, 15, 0, true);
        x.strong(true);
        Check.tellAll(x, 68);
        Check.due("STRONGLY all is gone through", 0, x.idle(7199));
        Check.dueDevice("its last US", x, 0, 6, 1);
        Check.due("STRONGLY all is gone through", 0, x.idle(1));
        Check.dueDevice("through", x, 0, 7, 320);
        Check.dueDevice("full", x, 0, 4, 2000);
        Check.tellAll(x, 68);
        int charge = x.device(0, 4);
        x.slot(1, 0, 1);
        Check.dueDevice("in a SLOT: LOW and CONVERTING", x, 0, 4, charge - 4);
        x.strong(false);
        x.idle(1);
        Check.dueDevice("RISE in waiting, not STRONGLY", x, 0, 4, charge - 8);
        x.idle(1);
        Check.dueDevice("not LOW", x, 0, 4, charge - 10);
        x.strong(true);
        x.idle(1);
        Check.dueDevice("STRONGLY", x, 0, 4, charge - 9);
    }
}
