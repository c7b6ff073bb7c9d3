/** Boundary cases of the Terms, I (the line, RESET, PRESENCE, LISTENING, TELLING) and of CHARGE in II. */
public final class BoundsTermsTest {
    private static final int THERMOMETER = 40;
    private static final int SWITCH = 58;
    private static final int MEMORY = 35;
    private static final int COUNTER = 29;
    private static final int[] SLOWS = {15, 16, 17, 30, 59, 60};

    public static void main(String[] args) {
        riseIsCut();
        addressBits();
        lowByTheHost();
        lowByOneThatTells();
        busyWhileListening();
        busyTillPresenceIsOver();
        deadSeesNoEdge();
        resetAtSpeed0();
        resetAtSpeed1();
        presenceFromTill();
        presenceFromTillAtSpeed1();
        presenceIsCountedByOthers();
        listensAtItsClock();
        listensAtItsFastClock();
        listensToOneThatTells();
        laterSlotDoesNotCount();
        tellsForClockAndHalf();
        tellsForClockAndHalfAtSpeed1();
        deafAndOneAreNotBusy();
        chargeAt0();
        chargeAt2000();
        chargeAt500();
        chargeAt500InASlot();
        chargeOfTheDead();
        chargeFirstPart();
        chargeSecondPart();
        chargeConversionJustThrough();
        aliveAgainInTheSlot();
        deadTakesNothing();
        deadTellsNothing();
        deadHoldsOnInTheSlot();
        notFedNeverDies();
        Check.end();
    }

    private static LoneWire with(int family, int slow, int fast, boolean fed) {
        LoneWire x = new LoneWire();
        x.attach(family, 0, slow, fast, fed);
        return x;
    }

    // ---- I: RISE, LOW, EDGES

    /** "RISE: 1 US and a third of one for each DEVICE that is there (together cut)." */
    private static void riseIsCut() {
        LoneWire x = new LoneWire();
        int[] due = {1, 1, 1, 2, 2, 2, 3, 3, 3};
        for (int n = 0; n <= 8; n++) {
            Check.due("RISE of " + n, due[n], x.count(8));
            if (n < 8) {
                x.attach(MEMORY, n, 30, 0, n % 2 == 0);
            }
        }
        for (int n = 7; n >= 0; n--) {
            x.detach(n);
            Check.due("RISE of " + n, due[n], x.count(8));
        }
    }

    /** "Its ADDRESS has 64 bits: FAMILY (8), SERIAL (48), CHECKSUM of these (8), of each the lowest bit first." */
    private static void addressBits() {
        for (int serial : new int[] {0, 1, 0x40000000, Integer.MAX_VALUE, 0x12345678}) {
            LoneWire x = new LoneWire();
            x.attach(THERMOMETER, serial, 30, 0, false);
            x.reset();
            x.write(51, 8);
            int[] due = {
                40, serial & 255, serial >> 8 & 255, serial >> 16 & 255, serial >> 24, 0, 0,
                Check.checksum(40 | (long) serial << 8, 56)
            };
            Check.dueBytes("ADDRESS by 51", x, due);
            Check.dueDevice("64 bits, DEAF then", x, 0, 3, 0);
        }
    }

    /** "if the line was not LOW by what went ahead of it as the SLOT began": the host's own low, and RISE. */
    private static void lowByTheHost() {
        for (int n = 1; n <= 8; n++) {
            LoneWire x = new LoneWire();
            for (int i = 0; i < n; i++) {
                x.attach(MEMORY, i, 30, 0, false);
            }
            int rise = x.count(8);
            x.slot(10, 0, 10 + rise - 1);
            x.slot(10, 0, 100);
            Check.due("let go less than RISE ago", 0, x.trace(0, 3));
            Check.due("each has missed it", n, x.count(5));
            x.slot(10, 0, 10 + rise);
            x.slot(10, 0, 100);
            Check.due("let go RISE ago", n, x.trace(0, 3));
            x.slot(10, 0, 10);
            x.idle(rise - 1);
            x.slot(10, 0, 100);
            Check.due("waiting, less than RISE", 0, x.trace(0, 3));
            x.slot(10, 0, 10);
            x.idle(rise);
            x.slot(10, 0, 100);
            Check.due("waiting, RISE", n, x.trace(0, 3));
            Check.due("each has missed two", 2 * n, x.count(5));
        }
    }

    /** "what it holds, and RISE behind that, goes on behind the SLOT's end". */
    private static void lowByOneThatTells() {
        for (int slow : SLOWS) {
            for (int length : new int[] {slow + slow / 2, slow + slow / 2 + 1}) {
                LoneWire x = with(COUNTER, slow, 0, false);
                x.attach(MEMORY, 0, 15, 0, false);
                // The MEMORY is DEAF behind 66; the COUNTER tells its COUNT, 0.
                Check.tellAll(x, 66);
                Check.dueDevice("DEAF", x, 1, 3, 0);
                x.slot(1, 0, length);
                Check.due("LOW as long as it holds", Math.min(length, slow + slow / 2 + 1), x.trace(0, 5));
                x.slot(1, 0, 200);
                boolean seen = length > slow + slow / 2;
                Check.due("CLOCK " + slow + ", length " + length, seen ? 2 : 0, x.trace(0, 3));
            }
        }
    }

    /** "It is BUSY for CLOCK US (LISTENING)". */
    private static void busyWhileListening() {
        for (int slow : SLOWS) {
            LoneWire x = with(MEMORY, slow, 0, false);
            x.reset();
            x.slot(1, 0, slow - 1);
            x.slot(1, 0, 200);
            Check.due("CLOCK less one: BUSY", 0, x.trace(0, 3));
            Check.due("one is missed", 1, x.count(5));
            x.slot(1, 0, slow);
            x.slot(1, 0, 200);
            Check.due("CLOCK: not BUSY", 1, x.trace(0, 3));
            x.slot(1, 0, 2);
            x.idle(slow - 3);
            x.slot(1, 0, 200);
            Check.due("waiting less: BUSY", 0, x.trace(0, 3));
            x.slot(1, 0, 2);
            x.idle(slow - 2);
            x.slot(1, 0, 200);
            Check.due("waiting: not BUSY", 1, x.trace(0, 3));
        }
    }

    /** "PRESENCE (it sees no EDGE till that is over)": ahead of it and while it holds. */
    private static void busyTillPresenceIsOver() {
        for (int slow : SLOWS) {
            int over = 480 + 1 + 5 * slow;
            for (int at : new int[] {482, 480 + slow, 481 + slow, over - 1, over, over + 1, over + 2}) {
                LoneWire x = with(MEMORY, slow, 0, false);
                x.slot(480, 0, at);
                x.slot(1, 0, 100);
                // RISE of 1 US behind it is LOW, too.
                Check.due("CLOCK " + slow + ", EDGE at " + at, at > over ? 1 : 0, x.trace(0, 3));
                Check.due("missed", at > over ? 0 : 1, x.count(5));
            }
        }
    }

    /** "not DEAD"; and one that is DEAD misses none. */
    private static void deadSeesNoEdge() {
        LoneWire x = with(MEMORY, 30, 0, true);
        x.attach(MEMORY, 1, 30, 0, false);
        Check.drain(x, 2000);
        x.detach(1);
        x.attach(MEMORY, 1, 30, 0, false);
        int missed = x.count(5);
        x.idle(1);
        Check.dueDevice("DEAD by RISE", x, 0, 3, 3);
        x.slot(480, 0, 900);
        Check.due("one of two", 1, x.trace(0, 3));
        Check.due("one RESET", 1, x.trace(0, 4));
        Check.due("none missed", missed, x.count(5));
    }

    // ---- I: RESET and PRESENCE

    private static void dueReset(LoneWire x, int low, int resets, int speedThen) {
        int before = x.count(4);
        x.slot(low, 0, low + 500);
        Check.due("low " + low + ": RESETS", resets, x.count(4) - before);
        Check.due("low " + low + ": traced", resets, x.trace(0, 4));
        Check.dueDevice("low " + low + ": SPEED", x, 0, 2, speedThen);
        Check.dueDevice("low " + low + ": it LISTENS", x, 0, 3, resets);
    }

    /** "If low is 480 or more". */
    private static void resetAtSpeed0() {
        for (int fast : new int[] {0, 4}) {
            for (int low : new int[] {1, 47, 48, 49, 478, 479, 480, 481, 1500}) {
                LoneWire x = with(MEMORY, 30, fast, false);
                dueReset(x, low, low >= 480 ? 1 : 0, 0);
            }
        }
    }

    /** "(at SPEED 1: 48 or more) .. SPEED is 0 then if low is 480 or more". */
    private static void resetAtSpeed1() {
        for (int low : new int[] {1, 46, 47, 48, 49, 478, 479, 480, 481, 1500}) {
            LoneWire x = with(MEMORY, 30, 4, false);
            x.reset();
            x.write(60, 8);
            x.speed(1);
            x.write(0, 8);
            Check.dueDevice("DEAF at SPEED 1", x, 0, 3, 0);
            dueReset(x, low, low >= 48 ? 1 : 0, low >= 480 ? 0 : 1);
        }
    }

    /** "CLOCK US behind the line's being not LOW any more by the host it holds it for 4 CLOCKS". */
    private static void presenceFromTill() {
        for (int n : new int[] {1, 2, 3, 5, 6, 8}) {
            for (int slow : SLOWS) {
                int rise = 1 + n / 3;
                int from = 480 + rise + slow;
                int till = from + 4 * slow;
                int[] moments = {480 + rise - 1, 480 + rise, from - 1, from, till - 1, till + rise - 1, till + rise};
                int[] due = {0, 1, 1, 0, 0, 0, 1};
                for (int i = 0; i < moments.length; i++) {
                    LoneWire x = new LoneWire();
                    for (int d = 0; d < n; d++) {
                        x.attach(MEMORY, d, slow, 0, false);
                    }
                    Check.due(n + " of CLOCK " + slow + ", at " + moments[i], due[i], x.slot(480, moments[i], 900));
                    Check.due("LOW", 480 + rise + 4 * slow + rise, x.trace(0, 5));
                }
            }
        }
    }

    /** "(by the SPEED then)": FAST, as long as low is below 480. */
    private static void presenceFromTillAtSpeed1() {
        for (int fast = 2; fast <= 6; fast++) {
            for (int low : new int[] {48, 479, 480}) {
                int clock = low < 480 ? fast : 20;
                int from = low + 1 + clock;
                int[] moments = {low, low + 1, from - 1, from, from + 4 * clock, from + 4 * clock + 1};
                int[] due = {0, 1, 1, 0, 0, 1};
                for (int i = 0; i < moments.length; i++) {
                    LoneWire x = with(SWITCH, 20, fast, false);
                    x.reset();
                    x.write(60, 8);
                    Check.due("FAST " + fast + ", low " + low + ", at " + moments[i], due[i], x.slot(low, moments[i], 900));
                }
            }
        }
    }

    /** "(all that is held by then counts: .. PRESENCE, also of those RESET in this SLOT ..)". */
    private static void presenceIsCountedByOthers() {
        // The SWITCH at SPEED 1 holds from 48 + 1 + 6 on till 79, LOW till 80; the MEMORY samples at its CLOCK.
        int[] clocks = {49, 50, 54, 55, 60};
        int[] due = {1, 1, 1, 0, 0};
        for (int i = 0; i < clocks.length; i++) {
            LoneWire x = with(SWITCH, 20, 6, false);
            x.reset();
            x.write(60, 8);
            x.attach(COUNTER, 0, clocks[i], 0, false);
            x.speed(0);
            // The SWITCH misses the RESET: it is BUSY.
            x.slot(1, 0, 2);
            x.slot(480, 0, 900);
            Check.due("the COUNTER alone is RESET", 1, x.trace(0, 4));
            takeBit(x, 0, 48);
            for (int bit = 1; bit < 8; bit++) {
                takeBit(x, bit, (204 >> bit & 1) == 1 ? 6 : 62);
            }
            // 204 has 0 as its lowest bit: with a 1 there it is 205, and the COUNTER is DEAF.
            Check.dueDevice("CLOCK " + clocks[i], x, 1, 3, due[i] == 0 ? 1 : 0);
        }
    }

    private static void takeBit(LoneWire x, int bit, int low) {
        x.slot(low, 0, 150);
        Check.due("bit " + bit + " is seen by both", 2, x.trace(0, 3));
    }

    // ---- I: LISTENING and TELLING

    /** "CLOCK US behind the EDGE it takes a bit: 0 if the line is LOW then, else 1". */
    private static void listensAtItsClock() {
        for (int n : new int[] {1, 3, 8}) {
            for (int slow : SLOWS) {
                int rise = 1 + n / 3;
                dueBitTaken(n, slow, slow - rise, 1);
                dueBitTaken(n, slow, slow - rise + 1, 0);
            }
        }
    }

    /** The first bit of 51 (1) or of 50 (0: DEAF behind it). */
    private static void dueBitTaken(int n, int slow, int low, int due) {
        LoneWire x = new LoneWire();
        for (int d = 0; d < n; d++) {
            x.attach(MEMORY, d, slow, 0, false);
        }
        x.reset();
        x.slot(low, 0, 150);
        x.write(51 >> 1, 7);
        Check.dueDevice(n + " of CLOCK " + slow + ", low " + low, x, 0, 3, due == 1 ? 2 : 0);
    }

    private static void listensAtItsFastClock() {
        for (int fast = 2; fast <= 6; fast++) {
            for (int low = 1; low <= 8; low++) {
                LoneWire x = with(MEMORY, 20, fast, false);
                x.raise();
                x.slot(low, 0, 20);
                x.write(51 >> 1, 7);
                Check.dueDevice("FAST " + fast + ", low " + low, x, 0, 3, low < fast ? 2 : 0);
            }
        }
    }

    /** "(all that is held by then counts: by the host, who TELLS ..)". */
    private static void listensToOneThatTells() {
        // The THERMOMETER of CLOCK 20 tells a 0 for 30 US, and RISE of 1: LOW till 31.
        int[] clocks = {29, 30, 31, 32};
        int[] due = {0, 0, 1, 1};
        for (int i = 0; i < clocks.length; i++) {
            LoneWire x = with(THERMOMETER, 20, 0, false);
            x.attach(MEMORY, 0, clocks[i], 0, false);
            Check.tellAll(x);
            tellApart(x, 68, 85);
            Check.dueDevice("the THERMOMETER tells", x, 0, 3, 2);
            Check.dueDevice("the MEMORY listens", x, 1, 3, 1);
            for (int bit = 0; bit < 8; bit++) {
                x.slot(1, 0, 100);
                Check.due("both see it", 2, x.trace(0, 3));
            }
            // 0 is its TARGET: it tells on; 255 is none: it is DEAF.
            Check.dueDevice("CLOCK " + clocks[i], x, 1, 3, due[i] == 0 ? 2 : 0);
        }
    }

    /** A byte for one of CLOCK 20 and another, of the same bits and more, for one of CLOCK 29 or more: by lows between. */
    private static void tellApart(LoneWire x, int quick, int slow) {
        Check.due("of the same bits and more", slow, quick | slow);
        for (int bit = 0; bit < 8; bit++) {
            boolean one = (quick >> bit & 1) == 1;
            boolean other = (slow >> bit & 1) == 1;
            x.slot(one ? 6 : other ? 22 : 60, 0, 100);
        }
    }

    /** "what a later SLOT does, does not". */
    private static void laterSlotDoesNotCount() {
        LoneWire x = with(MEMORY, 60, 0, false);
        x.reset();
        for (int bit = 0; bit < 8; bit++) {
            boolean one = (51 >> bit & 1) == 1;
            x.slot(one ? 6 : 60, 0, one ? 10 : 61);
            Check.due("seen", 1, x.trace(0, 3));
            if (one) {
                // LOW from 10 till 71: the MEMORY samples at 60, and has taken a 1 all the same.
                x.slot(60, 0, 95);
                Check.due("BUSY", 0, x.trace(0, 3));
            }
        }
        Check.dueDevice("it has taken 51", x, 0, 3, 2);
    }

    /** "0: it holds the line from the EDGE on for CLOCK and half of that (cut) US". */
    private static void tellsForClockAndHalf() {
        for (int n : new int[] {1, 3, 6}) {
            for (int slow = 15; slow <= 60; slow++) {
                int rise = 1 + n / 3;
                int till = slow + slow / 2 + rise;
                for (int at : new int[] {0, till - 1, till}) {
                    LoneWire x = new LoneWire();
                    for (int d = 0; d < n; d++) {
                        x.attach(COUNTER, d, slow, 0, false);
                    }
                    Check.tellAll(x, 66);
                    Check.due(n + " of CLOCK " + slow + ", at " + at, at < till ? 0 : 1, x.slot(1, at, 150));
                    Check.due("LOW", till, x.trace(0, 5));
                }
            }
        }
    }

    private static void tellsForClockAndHalfAtSpeed1() {
        int[] till = {0, 0, 3, 4, 6, 7, 9};
        for (int fast = 2; fast <= 6; fast++) {
            for (int at : new int[] {till[fast], till[fast] + 1}) {
                LoneWire x = with(COUNTER, 30, fast, false);
                x.raise();
                Check.writeBytes(x, 204, 66);
                Check.due("FAST " + fast + ", at " + at, at > till[fast] ? 1 : 0, x.slot(1, at, 40));
                Check.due("LOW", till[fast] + 1, x.trace(0, 5));
            }
        }
    }

    /** "1: nothing; it is DEAF: nothing": neither is BUSY, even in the next US. */
    private static void deafAndOneAreNotBusy() {
        LoneWire x = with(SWITCH, 60, 0, false);
        x.slot(1, 0, 2);
        x.slot(1, 0, 2);
        Check.due("DEAF: seen", 1, x.trace(0, 3));
        Check.due("LOW by the host alone", 2, x.trace(0, 5));
        x.press(0, 0, true);
        Check.tellAll(x, 245);
        x.slot(1, 0, 2);
        Check.due("a 1", 2, x.trace(0, 5));
        x.slot(1, 0, 95);
        Check.due("seen", 1, x.trace(0, 3));
        Check.due("a 0", 91, x.trace(0, 5));
    }

    // ---- II: CHARGE

    /** "below 0 it is DEAD, CHARGE 0": at 0 it lives. */
    private static void chargeAt0() {
        for (int us : new int[] {1999, 2000, 2001, 2002}) {
            LoneWire x = with(COUNTER, 30, 4, true);
            x.pulse(0, 9);
            Check.drain(x, us);
            boolean dead = us > 2000;
            Check.dueDevice("LOW for " + us, x, 0, 3, dead ? 3 : 0);
            Check.dueDevice("CHARGE", x, 0, 4, dead ? 0 : 2000 - us);
            Check.dueDevice("COUNT", x, 0, 7, dead ? 0 : 9);
            Check.due("came to be DEAD", dead ? 1 : 0, x.count(6));
        }
        LoneWire y = with(COUNTER, 30, 4, true);
        Check.drain(y, 1999);
        y.idle(1);
        Check.dueDevice("1, then RISE: 0", y, 0, 4, 0);
        Check.dueDevice("it lives", y, 0, 3, 0);
        y.idle(1);
        Check.dueDevice("not LOW: 1 more", y, 0, 4, 1);
    }

    /** "CHARGE 0 .. 2000 (2000 at first)". */
    private static void chargeAt2000() {
        LoneWire x = with(MEMORY, 30, 0, true);
        x.idle(1);
        Check.dueDevice("no more than that", x, 0, 4, 2000);
        x.slot(1, 0, 1);
        Check.dueDevice("1 less", x, 0, 4, 1999);
        x.idle(1);
        Check.dueDevice("RISE: 1 less", x, 0, 4, 1998);
        x.idle(1);
        Check.dueDevice("1 more", x, 0, 4, 1999);
        x.idle(1);
        Check.dueDevice("full", x, 0, 4, 2000);
        x.idle(100000);
        Check.dueDevice("no more than that", x, 0, 4, 2000);
        x.slot(6, 0, 14);
        Check.dueDevice("7 less, 7 more", x, 0, 4, 2000);
        x.slot(6, 0, 13);
        Check.dueDevice("7 less, 6 more", x, 0, 4, 1999);
    }

    /** "DEAD, and CHARGE 500 or more: it is alive again (DEAF till RESET)". */
    private static void chargeAt500() {
        for (int us : new int[] {498, 499, 500, 501}) {
            LoneWire x = with(MEMORY, 30, 0, true);
            Check.drain(x, 2001);
            x.idle(1);
            Check.dueDevice("RISE: 0 as before", x, 0, 4, 0);
            x.idle(us);
            Check.dueDevice("CHARGE", x, 0, 4, us);
            Check.dueDevice("so many US: " + us, x, 0, 3, us < 500 ? 3 : 0);
            int missed = x.count(5);
            x.slot(1, 0, 2);
            Check.due("it sees the EDGE", us < 500 ? 0 : 1, x.trace(0, 3));
            Check.due("it misses none", missed, x.count(5));
        }
        LoneWire y = with(MEMORY, 30, 0, true);
        y.reset();
        y.write(51, 8);
        y.idle(2000);
        Check.drain(y, 2002);
        y.idle(2000);
        y.write(51, 8);
        Check.dueDevice("DEAF till RESET", y, 0, 3, 0);
        y.reset();
        Check.dueDevice("then it LISTENS", y, 0, 3, 1);
        y.write(51, 8);
        Check.due("and TELLS", MEMORY, y.read(8));
    }

    private static void chargeAt500InASlot() {
        for (int us : new int[] {499, 500}) {
            LoneWire x = with(MEMORY, 30, 0, true);
            Check.drain(x, 2001);
            x.idle(1);
            // LOW goes first: 0 it is then, whatever the order of the US.
            x.slot(10, 0, 11 + us);
            Check.dueDevice("CHARGE", x, 0, 4, us);
            Check.dueDevice("so many US: " + us, x, 0, 3, us < 500 ? 3 : 0);
        }
        LoneWire y = with(MEMORY, 30, 0, true);
        Check.drain(y, 2001);
        y.idle(1);
        y.idle(499);
        // 499, LOW for 2 US, then 3 more.
        y.slot(1, 0, 4);
        Check.dueDevice("499 again", y, 0, 4, 499);
        Check.dueDevice("DEAD yet", y, 0, 3, 3);
        y.slot(1, 0, 5);
        Check.dueDevice("500", y, 0, 4, 500);
        Check.dueDevice("alive", y, 0, 3, 0);
        y.slot(1, 0, 1);
        Check.dueDevice("below 500 again", y, 0, 4, 499);
        Check.dueDevice("it lives", y, 0, 3, 0);
    }

    /** One that is DEAD comes to be so no more; it does again when it has been alive. */
    private static void chargeOfTheDead() {
        LoneWire x = with(MEMORY, 30, 0, true);
        Check.drain(x, 2001);
        Check.due("once", 1, x.count(6));
        Check.drain(x, 50);
        Check.due("once", 1, x.count(6));
        x.idle(301);
        Check.dueDevice("CHARGE", x, 0, 4, 300);
        Check.drain(x, 301);
        Check.dueDevice("below 0: 0", x, 0, 4, 0);
        Check.due("once", 1, x.count(6));
        x.idle(501);
        Check.dueDevice("alive", x, 0, 3, 0);
        Check.drain(x, 500);
        Check.due("at 0 it lives", 1, x.count(6));
        Check.drain(x, 1);
        Check.due("twice", 2, x.count(6));
    }

    /** "all US in which the line is LOW": by these alone it may run out, though there is more behind them. */
    private static void chargeFirstPart() {
        for (int charge : new int[] {100, 101, 102}) {
            LoneWire x = with(MEMORY, 30, 0, true);
            Check.drain(x, 2000 - charge - 1);
            x.idle(1);
            Check.dueDevice("CHARGE", x, 0, 4, charge);
            x.slot(100, 0, 201);
            boolean dead = charge < 101;
            Check.due("101 LOW", dead ? 1 : 0, x.count(6));
            Check.dueDevice("then 100 others", x, 0, 4, dead ? 100 : charge - 1);
            Check.dueDevice("DEAD", x, 0, 3, dead ? 3 : 0);
        }
    }

    /** A new object whose THERMOMETER CONVERTS for 900 US from now on, with just that CHARGE. */
    private static LoneWire converting(int charge) {
        for (int less = 0; less < 1500; less++) {
            LoneWire x = with(THERMOMETER, 15, 0, true);
            Check.tellAll(x, 78, 75, 70, 0);
            x.idle(2000);
            Check.drain(x, less);
            x.idle(1);
            Check.tellAll(x, 68);
            if (x.device(0, 4) == charge) {
                Check.dueDevice("it CONVERTS", x, 0, 6, 1);
                return x;
            }
        }
        Check.due("there is a way to CHARGE " + charge, true, false);
        return with(THERMOMETER, 15, 0, true);
    }

    /** One that CONVERTS for some thousand US yet, with just that CHARGE. */
    private static LoneWire convertingLong(int charge) {
        LoneWire x = with(THERMOMETER, 15, 0, true);
        Check.tellAll(x, 68);
        useUp(x, charge);
        return x;
    }

    /** Lets the THERMOMETER that CONVERTS run down to that CHARGE: 2 in each US, 1 more by one US of STRONG pulling. */
    private static void useUp(LoneWire x, int charge) {
        if ((x.device(0, 4) - charge) % 2 != 0) {
            x.strong(true);
            x.idle(1);
        }
        x.strong(false);
        x.idle((x.device(0, 4) - charge) / 2);
        Check.dueDevice("CHARGE", x, 0, 4, charge);
        Check.dueDevice("it CONVERTS", x, 0, 6, 1);
    }

    /** "then the others in which it CONVERTS": 2 less in each. */
    private static void chargeSecondPart() {
        for (int charge : new int[] {199, 200, 201, 202}) {
            LoneWire x = convertingLong(charge);
            Check.due("it lasts", charge / 2, x.lasts(0));
            Check.due("100 US", charge < 200 ? 1 : 0, x.idle(100));
            Check.dueDevice("CHARGE", x, 0, 4, charge < 200 ? 0 : charge - 200);
            Check.dueDevice("it CONVERTS", x, 0, 6, charge < 200 ? 0 : 1);
            Check.due("one more", charge == 200 || charge == 201 ? 1 : 0, x.idle(1));
        }
        LoneWire y = converting(700);
        y.idle(300);
        Check.due("600 US of CONVERTING are too many for 100", 1, y.idle(1000));
        Check.dueDevice("then all others: 400", y, 0, 4, 400);
        Check.dueDevice("DEAD", y, 0, 3, 3);
        LoneWire z = convertingLong(163);
        z.slot(40, 0, 42);
        Check.dueDevice("LOW and CONVERTING: 4 less in each of 41: DEAD; then 1 more", z, 0, 4, 1);
        Check.dueDevice("DEAD", z, 0, 3, 3);
        LoneWire v = convertingLong(164);
        v.slot(40, 0, 41);
        Check.dueDevice("41 times 4 less", v, 0, 4, 0);
        Check.dueDevice("it CONVERTS yet", v, 0, 6, 1);
    }

    /** "Behind that a CONVERSION that is through is so": but not of one that runs out in its last US. */
    private static void chargeConversionJustThrough() {
        for (int charge : new int[] {1799, 1800}) {
            for (int us : new int[] {900, 1000}) {
                LoneWire x = converting(charge);
                x.heat(0, 160);
                boolean dead = charge < 1800;
                Check.due("CHARGE " + charge, dead ? 1 : 0, x.idle(us));
                Check.dueDevice("HEAT", x, 0, 7, dead ? 1360 : 160);
                Check.dueDevice("ALARM (10 is below 70)", x, 0, 5, dead ? 0 : 1);
                Check.dueDevice("CHARGE then", x, 0, 4, us - 900);
                Check.dueDevice("DEAD", x, 0, 3, dead ? 3 : 2);
            }
        }
        LoneWire y = converting(1800);
        y.idle(899);
        Check.dueDevice("its last US", y, 0, 6, 1);
        Check.dueDevice("HEAT as it was", y, 0, 7, 1360);
        y.idle(1);
        Check.dueDevice("through", y, 0, 6, 0);
        Check.dueDevice("HEAT", y, 0, 7, 320);
    }

    /** "each that is not DEAD (and has not been so in this SLOT) .. is RESET". */
    private static void aliveAgainInTheSlot() {
        // LOW 481 by the host, 61 by its PRESENCE: 542 times 4 is too much for any CHARGE.
        for (int length : new int[] {542 + 499, 542 + 500}) {
            LoneWire x = convertingLong(1800);
            int resets = x.count(4);
            x.slot(480, 0, length);
            Check.due("LOW", 542, x.trace(0, 5));
            Check.due("it came to be DEAD", 1, x.count(6));
            Check.dueDevice("all others", x, 0, 4, length - 542);
            Check.dueDevice("DEAD, or alive again", x, 0, 3, length - 542 < 500 ? 3 : 0);
            Check.due("not RESET", resets, x.count(4));
            x.idle(1000);
            x.write(204, 8);
            Check.dueDevice("DEAF", x, 0, 3, 0);
            x.reset();
            Check.dueDevice("the next is one", x, 0, 3, 1);
            Check.due("RESET", resets + 1, x.count(4));
        }
    }

    /** "each that is not DEAD .. takes what it took": at SPEED 1, where RESET does not kill one that CONVERTS. */
    private static void deadTakesNothing() {
        for (int charge : new int[] {31, 32}) {
            LoneWire x = with(THERMOMETER, 15, 2, true);
            x.raise();
            Check.writeBytes(x, 204, 68);
            x.strong(true);
            x.idle(3000);
            x.reset();
            x.write(204, 7);
            Check.dueDevice("it LISTENS to the last", x, 0, 3, 1);
            useUp(x, charge);
            // A 1: LOW in 2 US, 12 others, CONVERTING in all: 8 and 24 less.
            x.write(1, 1);
            Check.dueDevice("taken, or DEAD", x, 0, 3, charge < 32 ? 3 : 1);
            Check.dueDevice("CHARGE", x, 0, 4, 0);
            Check.dueDevice("SPEED", x, 0, 2, charge < 32 ? 0 : 1);
            Check.due("died", charge < 32 ? 1 : 0, x.count(6));
        }
    }

    /** ".. TELLS on": a 1 of its ADDRESS costs as much; DEAD it tells no more. */
    private static void deadTellsNothing() {
        for (int charge : new int[] {31, 32}) {
            LoneWire x = with(THERMOMETER, 15, 2, true);
            x.raise();
            Check.writeBytes(x, 204, 68);
            x.strong(true);
            x.idle(3000);
            x.reset();
            x.write(51, 8);
            Check.due("0, 0, 0 of 40", 0, x.read(3));
            useUp(x, charge);
            Check.due("1 of 40", 1, x.read(1));
            Check.dueDevice("TELLS, or DEAD", x, 0, 3, charge < 32 ? 3 : 2);
            x.strong(true);
            x.idle(2000);
            Check.due("0, 1, 0, 0 of 40, or nothing", charge < 32 ? 15 : 2, x.read(4));
        }
    }

    /** "holds nothing (what is LOW in this SLOT goes on as if it did)": for others, too. */
    private static void deadHoldsOnInTheSlot() {
        // At SPEED 1: LOW 49 by the host; PRESENCE of the first from 55 till 79, of the second from 51 till 59.
        for (int charge : new int[] {311, 312}) {
            LoneWire x = with(THERMOMETER, 15, 6, true);
            Check.drain(x, 500);
            x.attach(THERMOMETER, 1, 15, 2, true);
            x.idle(1);
            x.raise();
            Check.writeBytes(x, 204, 68);
            useUp(x, charge);
            int other = x.device(1, 4);
            x.slot(48, 0, 100);
            Check.due("LOW", 49 + 29, x.trace(0, 5));
            // 78 times 4 less: the first is DEAD by that, and has 22 others; or by these, 2 less in each.
            Check.due("died", 1, x.count(6));
            Check.dueDevice("the first", x, 0, 4, charge < 312 ? 22 : 0);
            Check.dueDevice("the second has as many LOW US", x, 1, 4, other - 312 - 44);
            Check.dueDevice("it is RESET", x, 1, 3, 1);
        }
    }

    /** "One that is FED has CHARGE": others last for good. */
    private static void notFedNeverDies() {
        LoneWire x = with(THERMOMETER, 15, 0, false);
        Check.tellAll(x, 68);
        for (int i = 0; i < 3; i++) {
            x.slot(2000, 0, 2000);
        }
        Check.dueDevice("it CONVERTS", x, 0, 6, 1);
        x.idle(1200);
        Check.dueDevice("through", x, 0, 7, 320);
        Check.due("none died", 0, x.count(6));
    }
}
