/** Boundary cases of promises 1 to 8: each sentence that names one, on both of its sides. */
public final class BoundsWhoTest {
    private static final int THERMOMETER = 40;
    private static final int SWITCH = 58;
    private static final int MEMORY = 35;
    private static final int COUNTER = 29;
    private static final int NONE = LoneWire.NONE;
    private static final int MOST = Integer.MAX_VALUE;

    public static void main(String[] args) {
        newIsEmpty();
        newIsApartFromOthers();
        attachFamilies();
        attachSerials();
        attachClocks();
        attachTheSame();
        attachLeastFree();
        attachRefusedTakesNoNumber();
        attachNinth();
        attachComesFresh();
        detachNumbers();
        detachTakesItsHold();
        detachTakesWhatItLetGo();
        detachTakesItsRise();
        heatBounds();
        heatOfAnother();
        pressPins();
        pressWhileDead();
        deviceWhat();
        deviceDoing();
        deviceCharge();
        deviceExtremes();
        pulseBounds();
        pulseGoesRound();
        pulseAlarm();
        pulseWhileDead();
        storedBytes();
        storedGoesRound();
        Check.end();
    }

    private static LoneWire with(int family) {
        LoneWire x = new LoneWire();
        x.attach(family, 0, 30, 0, false);
        return x;
    }

    // ---- promise 1

    /** "Nobody there; SPEED of the host 0, it does not pull STRONGLY, nothing FOUND." */
    private static void newIsEmpty() {
        LoneWire x = new LoneWire();
        int[] counts = {0, 0, 0, 0, 0, 0, 0, 0, 1, NONE};
        for (int what = 0; what < counts.length; what++) {
            Check.due("new: count(" + what + ")", counts[what], x.count(what));
        }
        for (int k = -1; k <= 8; k++) {
            Check.due("new: found(" + k + ")", k < 0 || k > 7 ? NONE : 0, x.found(k));
        }
        Check.due("new: last()", NONE, x.last());
        Check.due("new: forks()", 0, x.forks());
        Check.due("new: known", NONE, x.known(0, 0));
        Check.due("new: measured", NONE, x.measured(0));
        Check.due("new: trace", NONE, x.trace(0, 0));
        Check.due("new: branch", NONE, x.branch(0));
        Check.due("new: strong(false) is no other", false, x.strong(false));
        for (int d = -1; d <= 8; d++) {
            int at = d;
            Check.noSuch("new: device(" + d + ")", () -> x.device(at, 0));
        }
        Check.due("new: nobody's PRESENCE", false, x.reset());
        Check.due("new: a PASS is made, and nobody is there", -2, x.pass(false));
    }

    private static void newIsApartFromOthers() {
        LoneWire one = with(THERMOMETER);
        one.speed(1);
        one.time(0, 0, 9);
        one.strong(true);
        one.target(40);
        LoneWire other = new LoneWire();
        Check.due("another: nobody there", 0, other.count(0));
        Check.due("another: SPEED", 0, other.count(1));
        Check.due("another: TIMES", 6, other.time(0, 0, 9));
        Check.due("another: STRONGLY", true, other.strong(true));
        Check.due("another: nothing FOUND", 0, other.found(0));
    }

    // ---- promise 2

    private static void dueAttach(String what, int due, int family, int serial, int slow, int fast) {
        LoneWire x = new LoneWire();
        if (due == NONE) {
            Check.cantBe(what, () -> x.attach(family, serial, slow, fast, false));
            Check.due(what + ": nobody there", 0, x.count(0));
        } else {
            Check.due(what, due, x.attach(family, serial, slow, fast, false));
            Check.due(what + ": one is there", 1, x.count(0));
        }
    }

    /** "IllegalArgumentException: FAMILY .. can't be": four can. */
    private static void attachFamilies() {
        for (int family = -300; family <= 300; family++) {
            boolean is = family == THERMOMETER || family == SWITCH || family == MEMORY || family == COUNTER;
            dueAttach("FAMILY " + family, is ? 0 : NONE, family, 0, 30, 0);
        }
    }

    /** "a SERIAL (0 and on)". */
    private static void attachSerials() {
        int[] serials = {Integer.MIN_VALUE, -2, -1, 0, 1, MOST - 1, MOST};
        for (int serial : serials) {
            dueAttach("SERIAL " + serial, serial < 0 ? NONE : 0, THERMOMETER, serial, 30, 0);
        }
    }

    /** "CLOCKS (SLOW 15 .. 60, FAST 0, 2 .. 6)". */
    private static void attachClocks() {
        for (int slow = -1; slow <= 70; slow++) {
            dueAttach("SLOW " + slow, slow < 15 || slow > 60 ? NONE : 0, MEMORY, 0, slow, 0);
        }
        for (int fast = -3; fast <= 10; fast++) {
            boolean can = fast == 0 || fast >= 2 && fast <= 6;
            dueAttach("FAST " + fast, can ? 0 : NONE, MEMORY, 0, 30, fast);
        }
    }

    /** "or there is one with that FAMILY and SERIAL": both, whatever else is unlike. */
    private static void attachTheSame() {
        LoneWire x = new LoneWire();
        x.attach(MEMORY, 5, 30, 0, false);
        Check.cantBe("the same", () -> x.attach(MEMORY, 5, 30, 0, false));
        Check.cantBe("the same, other CLOCKS, FED", () -> x.attach(MEMORY, 5, 15, 6, true));
        Check.due("its SERIAL in another FAMILY", 1, x.attach(COUNTER, 5, 30, 0, false));
        Check.due("the next SERIAL", 2, x.attach(MEMORY, 6, 30, 0, false));
        Check.due("the SERIAL ahead", 3, x.attach(MEMORY, 4, 30, 0, false));
        x.detach(0);
        Check.due("it has gone: it can come again", 0, x.attach(MEMORY, 5, 30, 0, false));
        x.attach(MEMORY, MOST, 30, 0, false);
        Check.cantBe("the greatest SERIAL again", () -> x.attach(MEMORY, MOST, 30, 0, false));
    }

    /** "DEVICES 0 .. 7 (the least free number first)". */
    private static void attachLeastFree() {
        LoneWire x = new LoneWire();
        for (int i = 0; i < 8; i++) {
            Check.due("the least free", i, x.attach(COUNTER, i, 30, 0, false));
        }
        for (int gone : new int[] {7, 0, 3}) {
            x.detach(gone);
            Check.due("the only free one", gone, x.attach(COUNTER, 100 + gone, 30, 0, false));
        }
        x.detach(6);
        x.detach(2);
        x.detach(4);
        for (int due : new int[] {2, 4, 6, NONE}) {
            Check.due("the least of those free", due, x.attach(COUNTER, 200 + due, 30, 0, false));
        }
    }

    private static void attachRefusedTakesNoNumber() {
        LoneWire x = new LoneWire();
        Check.cantBe("refused", () -> x.attach(41, 0, 30, 0, false));
        Check.cantBe("refused", () -> x.attach(40, 0, 14, 0, false));
        Check.due("the first number is free yet", 0, x.attach(40, 0, 30, 0, false));
        Check.cantBe("refused", () -> x.attach(40, 0, 30, 0, false));
        Check.due("and the next", 1, x.attach(40, 1, 30, 0, false));
        Check.due("RISE of two", 1, x.count(8));
    }

    /** "NONE: there are 8. Ahead of that IllegalArgumentException". */
    private static void attachNinth() {
        LoneWire x = new LoneWire();
        for (int i = 0; i < 7; i++) {
            x.attach(SWITCH, i, 30, 0, false);
        }
        Check.due("the eighth", 7, x.attach(SWITCH, 7, 30, 0, false));
        Check.due("the ninth", NONE, x.attach(SWITCH, 8, 30, 0, false));
        Check.due("8 are there", 8, x.count(0));
        Check.due("RISE of 8", 3, x.count(8));
        Check.cantBe("FAMILY ahead of NONE", () -> x.attach(57, 8, 30, 0, false));
        Check.cantBe("SERIAL ahead of NONE", () -> x.attach(SWITCH, -1, 30, 0, false));
        Check.cantBe("SLOW ahead of NONE", () -> x.attach(SWITCH, 8, 61, 0, false));
        Check.cantBe("FAST ahead of NONE", () -> x.attach(SWITCH, 8, 30, 1, false));
        Check.cantBe("one that is there ahead of NONE", () -> x.attach(SWITCH, 7, 30, 0, false));
        Check.due("the ninth was not kept", -1, x.branch(8));
        Check.due("one goes", 7, x.detach(5));
        Check.due("then it can come", 5, x.attach(SWITCH, 8, 30, 0, false));
    }

    /** "A DEVICE comes (it is DEAF, SPEED 0)": nothing is left of who had its number. */
    private static void attachComesFresh() {
        LoneWire x = new LoneWire();
        x.attach(SWITCH, 0, 30, 4, true);
        x.press(0, 1, true);
        x.raise();
        x.speed(0);
        Check.drain(x, 40);
        Check.dueDevice("SPEED 1", x, 0, 2, 1);
        x.detach(0);
        x.attach(SWITCH, 0, 30, 4, true);
        int[] due = {SWITCH, 0, 0, 0, 2000, 0, 0, 0, 0, 0, 0};
        for (int what = 0; what < due.length; what++) {
            Check.dueDevice("fresh", x, 0, what, due[what]);
        }
        x.idle(1000);
        x.write(204, 8);
        x.write(245, 8);
        Check.due("DEAF till RESET", 255, x.read(8));
        x.reset();
        x.write(204, 8);
        x.write(245, 8);
        Check.due("then it hears", 0xf0, x.read(8));
    }

    // ---- promise 3

    /** "how many there are. NoSuchElementException: there is none such." */
    private static void detachNumbers() {
        LoneWire x = new LoneWire();
        Check.noSuch("nobody there", () -> x.detach(0));
        for (int i = 0; i < 8; i++) {
            x.attach(MEMORY, i, 30, 0, false);
        }
        for (int d : new int[] {Integer.MIN_VALUE, -1, 8, MOST}) {
            Check.noSuch("detach(" + d + ")", () -> x.detach(d));
        }
        Check.due("8 are there yet", 8, x.count(0));
        int[] order = {7, 0, 4, 1, 6, 2, 5, 3};
        for (int i = 0; i < 8; i++) {
            int gone = order[i];
            Check.due("so many are left", 7 - i, x.detach(gone));
            Check.noSuch("it has gone", () -> x.detach(gone));
            Check.due("so many are left yet", 7 - i, x.count(0));
            Check.due("RISE", 1 + (7 - i) / 3, x.count(8));
        }
    }

    /** "A DEVICE goes (what it holds, too)": the other's hold stays. */
    private static void detachTakesItsHold() {
        LoneWire x = new LoneWire();
        x.attach(MEMORY, 0, 15, 0, false);
        x.attach(MEMORY, 1, 60, 0, false);
        // PRESENCES from 496 till 556 and from 541 till 781.
        x.slot(480, 0, 550);
        x.detach(1);
        Check.due("the first holds yet", 0, x.slot(1, 6, 6));
        Check.due("and no more behind that", 1, x.slot(1, 2, 10));
        LoneWire y = new LoneWire();
        y.attach(MEMORY, 0, 15, 0, false);
        y.attach(MEMORY, 1, 60, 0, false);
        y.slot(480, 0, 550);
        y.detach(0);
        Check.due("the second holds yet", 0, y.slot(1, 231, 231));
        Check.due("and no more behind that", 1, y.slot(1, 2, 10));
    }

    /** It has let go just now, less than RISE ago: that goes with it, too. */
    private static void detachTakesWhatItLetGo() {
        for (boolean goes : new boolean[] {false, true}) {
            LoneWire x = new LoneWire();
            x.attach(MEMORY, 0, 15, 0, false);
            x.attach(MEMORY, 1, 60, 0, false);
            // PRESENCE of the second till 481 + 300, LOW till 782.
            x.slot(480, 0, 781);
            if (goes) {
                x.detach(1);
            }
            x.slot(1, 0, 50);
            Check.due("the first sees it", goes ? 1 : 0, x.trace(0, 3));
        }
    }

    /** With it goes the third of a US by which it makes RISE longer. */
    private static void detachTakesItsRise() {
        LoneWire x = new LoneWire();
        for (int i = 0; i < 3; i++) {
            x.attach(MEMORY, i, 15, 0, false);
        }
        Check.due("RISE 2", 0, x.slot(5, 6, 10));
        x.detach(1);
        Check.due("RISE 1", 1, x.slot(5, 6, 10));
    }

    // ---- promise 4

    /** "How hot it is (sixteenths, -880 .. 2000) at a THERMOMETER (320 at first): what it was." */
    private static void heatBounds() {
        LoneWire x = with(THERMOMETER);
        Check.due("at first", 320, x.heat(0, 320));
        int was = 320;
        for (int v : new int[] {-880, -879, 0, 1999, 2000, -1}) {
            Check.due("what it was, then " + v, was, x.heat(0, v));
            was = v;
        }
        for (int v : new int[] {Integer.MIN_VALUE, -882, -881, 2001, 2002, MOST}) {
            Check.cantBe("heat " + v, () -> x.heat(0, v));
        }
        Check.due("as it was", -1, x.heat(0, 5));
    }

    /** "IllegalArgumentException: it is another KIND". */
    private static void heatOfAnother() {
        for (int family : new int[] {SWITCH, MEMORY, COUNTER}) {
            LoneWire x = with(family);
            Check.cantBe("heat of " + family, () -> x.heat(0, 320));
            Check.noSuch("heat of nobody", () -> x.heat(1, 320));
        }
        LoneWire x = with(THERMOMETER);
        Check.noSuch("ahead of what can't be", () -> x.heat(1, 2001));
        x.detach(0);
        Check.noSuch("it has gone", () -> x.heat(0, 320));
    }

    // ---- promise 5

    /** "A PIN (0, 1) of a SWITCH .. IllegalArgumentException: it is another KIND, no such PIN." */
    private static void pressPins() {
        LoneWire x = with(SWITCH);
        for (int pin : new int[] {Integer.MIN_VALUE, -1, 2, 3, MOST}) {
            Check.cantBe("PIN " + pin, () -> x.press(0, pin, true));
            Check.dueDevice("PIN " + pin + " changes nothing", x, 0, 7, 0);
            Check.dueDevice("nor calls an ALARM", x, 0, 5, 0);
        }
        for (int pin = 0; pin < 2; pin++) {
            Check.due("not PRESSED is no other", false, x.press(0, pin, false));
            Check.dueDevice("no ALARM", x, 0, 5, 0);
            Check.due("PRESSED", true, x.press(0, pin, true));
            Check.dueDevice("this PIN alone", x, 0, 7, 1 << pin);
            Check.dueDevice("ALARM", x, 0, 5, 1);
            Check.due("PRESSED is no other", false, x.press(0, pin, true));
            Check.due("let go", true, x.press(0, pin, false));
            Check.dueDevice("none", x, 0, 7, 0);
            Check.tellAll(x, 245);
            Check.dueDevice("ALARM no more", x, 0, 5, 0);
            x.press(0, pin, true);
            Check.tellAll(x, 245);
            x.press(0, pin, false);
            Check.dueDevice("letting go is a change, too", x, 0, 5, 1);
            Check.tellAll(x, 245);
        }
        for (int family : new int[] {THERMOMETER, MEMORY, COUNTER}) {
            LoneWire y = with(family);
            Check.cantBe("press of " + family, () -> y.press(0, 0, true));
            Check.noSuch("press of nobody", () -> y.press(1, 0, true));
        }
        Check.noSuch("ahead of no such PIN", () -> x.press(1, 2, true));
    }

    /** "Its ALARM is called when a PIN changes (not while it is DEAD)." */
    private static void pressWhileDead() {
        LoneWire x = new LoneWire();
        x.attach(SWITCH, 0, 30, 0, true);
        Check.drain(x, 2001);
        Check.dueDevice("DEAD", x, 0, 3, 3);
        Check.due("it is another all the same", true, x.press(0, 0, true));
        Check.dueDevice("PRESSED", x, 0, 7, 1);
        Check.dueDevice("no ALARM", x, 0, 5, 0);
        x.idle(501);
        Check.dueDevice("alive", x, 0, 3, 0);
        Check.dueDevice("no ALARM by what was", x, 0, 5, 0);
        x.press(0, 1, true);
        Check.dueDevice("ALARM by what comes", x, 0, 5, 1);
        Check.drain(x, 2001);
        Check.dueDevice("DEAD it calls none", x, 0, 5, 0);
        Check.dueDevice("PINS are as they are", x, 0, 7, 3);
    }

    // ---- promise 6

    /** "NONE for others. NoSuchElementException: there is none such." */
    private static void deviceWhat() {
        LoneWire x = new LoneWire();
        int[] families = {THERMOMETER, SWITCH, MEMORY, COUNTER};
        for (int d = 0; d < 4; d++) {
            x.attach(families[d], 9, 30, 0, false);
        }
        for (int d = 0; d < 4; d++) {
            for (int what : new int[] {Integer.MIN_VALUE, -2, -1, 13, 14, MOST}) {
                Check.dueDevice("others", x, d, what, NONE);
            }
            Check.dueDevice("FAMILY", x, d, 0, families[d]);
            Check.dueDevice("CHECKSUM", x, d, 11, Check.checksum(families[d] | 9 << 8, 56));
            Check.dueDevice("MINE", x, d, 12, 0);
            Check.dueDevice("CONVERTS", x, d, 6, 0);
            Check.dueDevice("LOW, of others 0", x, d, 9, d == 0 ? 70 : 0);
            Check.dueDevice("FINE, of others 0", x, d, 10, d == 0 ? 3 : 0);
        }
        for (int d : new int[] {Integer.MIN_VALUE, -1, 4, 7, 8, MOST}) {
            for (int what : new int[] {-1, 0, 12, 13}) {
                Check.noSuch("device(" + d + ", " + what + ")", () -> x.device(d, what));
            }
        }
    }

    /** "3 what it does (0 DEAF, 1 LISTENS, 2 TELLS, 3 DEAD)". */
    private static void deviceDoing() {
        LoneWire x = new LoneWire();
        x.attach(MEMORY, 0, 30, 0, true);
        Check.dueDevice("DEAF", x, 0, 3, 0);
        x.slot(480, 0, 480);
        Check.dueDevice("LISTENS, ahead of its PRESENCE", x, 0, 3, 1);
        x.idle(1000);
        x.write(51, 7);
        Check.dueDevice("LISTENS to the eighth", x, 0, 3, 1);
        x.write(51 >> 7, 1);
        Check.dueDevice("TELLS", x, 0, 3, 2);
        for (int i = 0; i < 63; i++) {
            x.read(1);
        }
        Check.dueDevice("TELLS the 64th", x, 0, 3, 2);
        x.read(1);
        Check.dueDevice("DEAF", x, 0, 3, 0);
        x.idle(2000);
        Check.drain(x, 2000);
        Check.dueDevice("CHARGE 0: DEAF", x, 0, 3, 0);
        Check.drain(x, 1);
        Check.dueDevice("DEAD", x, 0, 3, 3);
    }

    /** "4 CHARGE (NONE: not FED)". */
    private static void deviceCharge() {
        LoneWire x = new LoneWire();
        x.attach(MEMORY, 0, 30, 0, true);
        x.attach(MEMORY, 1, 30, 0, false);
        Check.dueDevice("full", x, 0, 4, 2000);
        Check.dueDevice("not FED", x, 1, 4, NONE);
        Check.drain(x, 2000);
        Check.dueDevice("empty", x, 0, 4, 0);
        Check.drain(x, 1);
        Check.dueDevice("never below 0", x, 0, 4, 0);
        Check.dueDevice("not FED", x, 1, 4, NONE);
        Check.dueDevice("not FED, it never is DEAD", x, 1, 3, 0);
    }

    private static void deviceExtremes() {
        LoneWire x = new LoneWire();
        x.attach(THERMOMETER, MOST, 30, 0, false);
        Check.dueDevice("SERIAL", x, 0, 1, MOST);
        Check.dueDevice("CHECKSUM", x, 0, 11, Check.checksum(THERMOMETER | (long) MOST << 8, 56));
        for (int b = 0; b < 256; b += 51) {
            Check.tellAll(x, 78, b, 255 - b, 0);
            Check.dueDevice("HIGH as -128 .. 127", x, 0, 8, (byte) b);
            Check.dueDevice("LOW as -128 .. 127", x, 0, 9, (byte) (255 - b));
        }
        for (int b : new int[] {127, 128}) {
            Check.tellAll(x, 78, b, b, 0);
            Check.dueDevice("HIGH", x, 0, 8, b == 127 ? 127 : -128);
            Check.dueDevice("LOW", x, 0, 9, b == 127 ? 127 : -128);
        }
        for (int v : new int[] {-880, 2000}) {
            x.heat(0, v);
            Check.tellAll(x, 68);
            x.idle(900);
            Check.dueDevice("HEAT in store", x, 0, 7, v);
        }
        LoneWire y = with(MEMORY);
        Check.tellAll(y, 15, 15, 255, 255, 255, 255);
        Check.dueDevice("TARGET", y, 0, 7, 15);
        Check.dueDevice("PAD as an int", y, 0, 8, -1);
        Check.tellAll(y, 15, 16, 0, 0, 0, 128);
        Check.dueDevice("TARGET modulo 16", y, 0, 7, 0);
        Check.dueDevice("PAD, its last byte the highest", y, 0, 8, Integer.MIN_VALUE);
    }

    // ---- promise 7

    /** "n PULSES (1 .. 1000) come to a COUNTER: COUNT then." */
    private static void pulseBounds() {
        LoneWire x = with(COUNTER);
        for (int n : new int[] {Integer.MIN_VALUE, -1000, -1, 0, 1001, 1002, MOST}) {
            Check.cantBe("n " + n, () -> x.pulse(0, n));
            Check.dueDevice("COUNT as it was", x, 0, 7, 0);
        }
        Check.due("one", 1, x.pulse(0, 1));
        Check.due("999", 1000, x.pulse(0, 999));
        Check.due("1000", 2000, x.pulse(0, 1000));
        for (int family : new int[] {THERMOMETER, SWITCH, MEMORY}) {
            LoneWire y = with(family);
            Check.cantBe("pulse of " + family, () -> y.pulse(0, 1));
            Check.noSuch("pulse of nobody", () -> y.pulse(1, 1));
        }
        Check.noSuch("ahead of what can't be", () -> x.pulse(1, 0));
    }

    /** "PULSES come to COUNT (cut to 31 bits ..)": more calls than 512, so that it comes so far. */
    private static void pulseGoesRound() {
        LoneWire x = with(COUNTER);
        for (int i = 0; i < MOST / 1000; i++) {
            x.pulse(0, 1000);
        }
        Check.dueDevice("far up", x, 0, 7, 2147483000);
        Check.tellAll(x, 77, 255, 255, 255, 127);
        Check.dueDevice("the greatest LIMIT", x, 0, 8, MOST);
        Check.due("one below the greatest", MOST - 1, x.pulse(0, 646));
        Check.dueDevice("below LIMIT", x, 0, 5, 0);
        Check.due("the greatest", MOST, x.pulse(0, 1));
        Check.dueDevice("LIMIT", x, 0, 5, 1);
        Check.tellAll(x, 66);
        Check.dueBytes("told as 32 bits", x, 255, 255, 255, 127, Check.checksum(MOST, 32), 255);
        Check.due("cut to 31 bits", 0, x.pulse(0, 1));
        Check.dueDevice("its ALARM is called yet", x, 0, 5, 1);
        Check.due("from there on", 1000, x.pulse(0, 1000));
        LoneWire y = with(COUNTER);
        for (int i = 0; i < MOST / 1000; i++) {
            y.pulse(0, 1000);
        }
        Check.tellAll(y, 77, 100, 1, 0, 0);
        Check.due("over the greatest in one go", 352, y.pulse(0, 1000));
        Check.dueDevice("352 is below 356: no ALARM", y, 0, 5, 0);
        y.pulse(0, 4);
        Check.dueDevice("356", y, 0, 5, 1);
    }

    /** "its ALARM is called, if COUNT is LIMIT or more then, and LIMIT above 0." */
    private static void pulseAlarm() {
        LoneWire x = with(COUNTER);
        x.pulse(0, 1000);
        Check.dueDevice("LIMIT 0", x, 0, 5, 0);
        Check.tellAll(x, 77, 0xeb, 3, 0, 0);
        Check.dueDevice("LIMIT 1003", x, 0, 8, 1003);
        x.pulse(0, 2);
        Check.dueDevice("1002", x, 0, 5, 0);
        x.pulse(0, 1);
        Check.dueDevice("1003", x, 0, 5, 1);
        Check.tellAll(x, 77, 0, 4, 0, 0);
        x.pulse(0, 1);
        Check.dueDevice("no else: below LIMIT it is called yet", x, 0, 5, 1);
        Check.tellAll(x, 83);
        Check.dueDevice("till 83", x, 0, 5, 0);
        Check.tellAll(x, 77, 1, 0, 0, 0);
        Check.dueDevice("not by LIMIT alone", x, 0, 5, 0);
        x.pulse(0, 1000);
        Check.dueDevice("more than LIMIT", x, 0, 5, 1);
    }

    /** "none while it is DEAD". */
    private static void pulseWhileDead() {
        LoneWire x = new LoneWire();
        x.attach(COUNTER, 0, 30, 0, true);
        Check.tellAll(x, 77, 1, 0, 0, 0);
        x.idle(2000);
        Check.drain(x, 2000);
        Check.due("CHARGE 0: it counts", 7, x.pulse(0, 7));
        Check.drain(x, 1);
        Check.dueDevice("COUNT as at first", x, 0, 7, 0);
        Check.due("DEAD: none", 0, x.pulse(0, 7));
        Check.cantBe("what can't be throws all the same", () -> x.pulse(0, 0));
        x.idle(500);
        Check.dueDevice("CHARGE 499, behind RISE", x, 0, 4, 499);
        Check.due("DEAD yet", 0, x.pulse(0, 7));
        x.idle(1);
        Check.due("alive again", 7, x.pulse(0, 7));
        Check.dueDevice("LIMIT as at first: no ALARM", x, 0, 5, 0);
    }

    // ---- promise 8

    /** "Byte k (0 .. 15) of a MEMORY .. IllegalArgumentException: it is another KIND, no such byte." */
    private static void storedBytes() {
        LoneWire x = with(MEMORY);
        for (int k : new int[] {Integer.MIN_VALUE, -1, 16, 17, MOST}) {
            Check.cantBe("byte " + k, () -> x.stored(0, k));
        }
        Check.due("byte 0", 0, x.stored(0, 0));
        Check.due("byte 15", 0, x.stored(0, 15));
        for (int family : new int[] {THERMOMETER, SWITCH, COUNTER}) {
            LoneWire y = with(family);
            Check.cantBe("stored of " + family, () -> y.stored(0, 0));
            Check.noSuch("stored of nobody", () -> y.stored(1, 0));
        }
        Check.noSuch("ahead of no such byte", () -> x.stored(1, 16));
    }

    /** "PAD is put into the bytes from TARGET on (behind 15 comes 0)". */
    private static void storedGoesRound() {
        for (int target = 0; target < 32; target++) {
            LoneWire x = with(MEMORY);
            Check.tellAll(x, 15, target, 101, 102, 103, 255);
            Check.tellAll(x, 85, target % 16);
            int[] due = new int[16];
            due[target % 16] = 101;
            due[(target + 1) % 16] = 102;
            due[(target + 2) % 16] = 103;
            due[(target + 3) % 16] = 255;
            for (int k = 0; k < 16; k++) {
                Check.due("TARGET " + target + ", byte " + k, due[k], x.stored(0, k));
            }
        }
    }
}
