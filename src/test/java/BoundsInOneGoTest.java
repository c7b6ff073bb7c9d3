/** Boundary cases of promises 28 to 33. */
public final class BoundsInOneGoTest {
    private static final int THERMOMETER = 40;
    private static final int SWITCH = 58;
    private static final int MEMORY = 35;
    private static final int COUNTER = 29;
    private static final int NONE = LoneWire.NONE;
    private static final int NOBODY = -100002;
    private static final int WRONG = -100004;
    private static final int LEAST = Integer.MIN_VALUE;
    private static final int MOST = Integer.MAX_VALUE;
    /** RESET, 85 and an ADDRESS. */
    private static final int CHOOSING = 1 + 8 + 64;

    public static void main(String[] args) {
        measurePlaces();
        measureUs();
        measureHeats();
        measureNobodyAtFirst();
        measureNobodyThen();
        measureChecksum();
        measureFedJustLasts();
        measureLeavesStrongly();
        measureAllUs();
        measureAllNobody();
        measureAllOfOneFamily();
        measureAllTheNextOne();
        measureAllLeavesStrongly();
        measuredPlaces();
        measuredTillRoll();
        lookPlaces();
        lookChecks();
        storePlaces();
        storeTargets();
        storeValues();
        storeChecksum();
        storeNobodyThen();
        storeNotDone();
        raiseNobody();
        raiseWithoutFast();
        sixteenKnown();
        Check.end();
    }

    private static LoneWire known(int family, int slow, boolean fed) {
        LoneWire x = new LoneWire();
        x.attach(family, 0, slow, 0, fed);
        Check.due("one is KNOWN", 1, x.roll(false));
        x.idle(2000);
        return x;
    }

    // ---- promise 28

    /** "NONE: there is none such". */
    private static void measurePlaces() {
        LoneWire x = new LoneWire();
        x.attach(THERMOMETER, 0, 30, 0, false);
        Check.due("nothing KNOWN", NONE, x.measure(0, 0));
        Check.due("nothing is done", 0, x.count(3));
        x.roll(false);
        int slots = x.count(3);
        for (int i : new int[] {LEAST, -1, 1, 16, MOST}) {
            Check.due("measure(" + i + ", 0)", NONE, x.measure(i, 0));
        }
        Check.due("nothing is done", slots, x.count(3));
        Check.due("the only one", 320, x.measure(0, 0));
    }

    /** "so many US .. (0 .. 100000)": "NONE: .. US can't be". */
    private static void measureUs() {
        LoneWire x = known(THERMOMETER, 30, false);
        int time = x.count(2);
        for (int us : new int[] {LEAST, -1, 100001, MOST}) {
            Check.due("measure(0, " + us + ")", NONE, x.measure(0, us));
            Check.due("nothing is done", time, x.count(2));
        }
        int busy = 2 * 900 + (2 * 72 + 8 + 8 + 48) * 95;
        for (int us : new int[] {0, 1, 99999, 100000}) {
            time = x.count(2);
            Check.due("measure(0, " + us + ")", 320, x.measure(0, us));
            Check.due("TIME", busy + us, x.count(2) - time);
        }
    }

    private static void measureHeats() {
        LoneWire x = known(THERMOMETER, 30, false);
        for (int heat : new int[] {-880, -1, 0, 1, 2000}) {
            x.heat(0, heat);
            Check.due("HEAT", heat, x.measure(0, 7200));
        }
    }

    /** "-100002: nobody's PRESENCE at a RESET": at the first, */
    private static void measureNobodyAtFirst() {
        LoneWire x = known(THERMOMETER, 30, false);
        x.detach(0);
        int time = x.count(2);
        Check.due("nobody there", NOBODY, x.measure(0, 5000));
        Check.due("RESET alone", 900, x.count(2) - time);
    }

    /** and at the second: the line is LOW yet as that begins, so its EDGE is seen by none. */
    private static void measureNobodyThen() {
        LoneWire x = known(THERMOMETER, 30, false);
        x.time(0, 4, 60);
        int slots = x.count(3);
        Check.due("behind 0 US", NOBODY, x.measure(0, 0));
        Check.due("RESET, 85, ADDRESS, 68, RESET", CHOOSING + 8 + 1, x.count(3) - slots);
        slots = x.count(3);
        Check.due("behind 1 US RISE is over", WRONG, x.measure(0, 1));
        Check.due("all of it", 2 * CHOOSING + 8 + 8 + 48, x.count(3) - slots);
    }

    /** "HEAT of these, if their CHECKSUM is right": "-100004: what is READ is wrong". */
    private static void measureChecksum() {
        LoneWire x = known(THERMOMETER, 30, false);
        x.attach(COUNTER, 0, 30, 0, false);
        Check.due("right", 320, x.measure(0, 7200));
        x.detach(0);
        Check.due("it has gone, another is there", WRONG, x.measure(0, 7200));
        LoneWire y = known(SWITCH, 30, false);
        Check.due("a SWITCH tells nothing of that", WRONG, y.measure(0, 0));
        // All READ as 0: six bytes of 0 have a right CHECKSUM, 0.
        LoneWire z = known(THERMOMETER, 30, false);
        z.time(0, 3, 6);
        Check.due("all 0", 0, z.measure(0, 7200));
        z.time(0, 3, 7);
        Check.due("as told", 320, z.measure(0, 7200));
    }

    /** "so many US STRONGLY waited for": at RESET it lives by what it has stored. */
    private static void measureFedJustLasts() {
        // CLOCK 15: LOW 481 and 61. With 488 US of CONVERTING left: 542, 3 times 481, 2 times 7 less: 1 is left of 2000.
        for (int us : new int[] {7200 - 489, 7200 - 488, 7199, 7200}) {
            LoneWire x = new LoneWire();
            // Its ADDRESS has many a 1, each of which gives it more than it takes.
            x.attach(THERMOMETER, MOST, 15, 0, true);
            x.roll(false);
            x.idle(2000);
            Check.dueDevice("full", x, 0, 4, 2000);
            boolean dies = us < 7200 - 488;
            Check.due("waited for " + us, dies ? WRONG : 320, x.measure(0, us));
            Check.due("died", dies ? 1 : 0, x.count(6));
        }
    }

    /** "(.. STRONGLY or not is as it was then)". */
    private static void measureLeavesStrongly() {
        for (boolean is : new boolean[] {false, true}) {
            LoneWire x = known(THERMOMETER, 30, true);
            x.strong(is);
            Check.due("HEAT", 320, x.measure(0, 7200));
            Check.due("as it was", false, x.strong(is));
            x.detach(0);
            Check.due("nobody", NOBODY, x.measure(0, 7200));
            Check.due("as it was", false, x.strong(is));
        }
    }

    // ---- promise 29

    /** "NONE: US can't be." */
    private static void measureAllUs() {
        LoneWire x = known(THERMOMETER, 30, false);
        x.measureAll(7200);
        x.heat(0, 16);
        int time = x.count(2);
        for (int us : new int[] {LEAST, -1, 100001, MOST}) {
            Check.due("measureAll(" + us + ")", NONE, x.measureAll(us));
            Check.due("nothing is done", time, x.count(2));
            Check.due("MEASURED as it was", 320, x.measured(0));
        }
        int busy = 2 * 900 + (16 + 72 + 8 + 48) * 95;
        for (int us : new int[] {0, 1, 99999, 100000}) {
            time = x.count(2);
            Check.due("measureAll(" + us + ")", 1, x.measureAll(us));
            Check.due("TIME", busy + us, x.count(2) - time);
            Check.due("MEASURED", 16, x.measured(0));
        }
    }

    /** "RESET (-100002 without PRESENCE)". */
    private static void measureAllNobody() {
        LoneWire x = new LoneWire();
        Check.due("nobody there, nothing KNOWN", NOBODY, x.measureAll(5));
        Check.due("RESET alone", 900, x.count(2));
        x.attach(THERMOMETER, 0, 30, 0, false);
        Check.due("nothing KNOWN", 0, x.measureAll(5));
        Check.due("RESET, 204, 68, 5 US", 900 + 900 + 16 * 95 + 5, x.count(2));
        x.roll(false);
        Check.due("one", 1, x.measureAll(7200));
        x.detach(0);
        Check.due("it has gone", NOBODY, x.measureAll(7200));
        Check.due("it was not READ by the latest", NOBODY, x.measured(0));
    }

    /** "of each KNOWN of FAMILY 40". */
    private static void measureAllOfOneFamily() {
        LoneWire x = new LoneWire();
        int[] families = {THERMOMETER, SWITCH, MEMORY, COUNTER};
        for (int i = 0; i < 8; i++) {
            x.attach(families[i % 4], i, 30, 0, false);
        }
        x.roll(false);
        x.heat(0, -880);
        x.heat(4, 2000);
        int slots = x.count(3);
        Check.due("two", 2, x.measureAll(7200));
        Check.due("SLOTS", 17 + 2 * (CHOOSING + 56), x.count(3) - slots);
        for (int i = 0; i < 8; i++) {
            int due = x.known(i, 0) != THERMOMETER ? NOBODY : x.known(i, 1) == 0 ? -880 : 2000;
            Check.due("MEASURED " + i, due, x.measured(i));
        }
        Check.due("no ninth", NONE, x.measured(8));
        x.detach(4);
        Check.due("one", 1, x.measureAll(7200));
        for (int i = 0; i < 8; i++) {
            int due = x.known(i, 0) != THERMOMETER ? NOBODY : x.known(i, 1) == 0 ? -880 : WRONG;
            Check.due("MEASURED " + i, due, x.measured(i));
        }
    }

    /** "(without PRESENCE: the next one)": the line is LOW as the first one's RESET begins. */
    private static void measureAllTheNextOne() {
        LoneWire x = new LoneWire();
        x.attach(THERMOMETER, 0, 30, 0, false);
        x.attach(THERMOMETER, 1, 30, 0, false);
        Check.due("both", 2, x.roll(false));
        x.time(0, 4, 60);
        int slots = x.count(3);
        Check.due("none is right", 0, x.measureAll(0));
        Check.due("of the first RESET alone", 17 + 1 + CHOOSING + 56, x.count(3) - slots);
        Check.due("the first was not READ", NOBODY, x.measured(0));
        Check.due("the second was, wrongly", WRONG, x.measured(1));
        x.time(0, 4, 95);
        Check.due("both", 2, x.measureAll(0));
    }

    private static void measureAllLeavesStrongly() {
        for (boolean is : new boolean[] {false, true}) {
            LoneWire x = known(THERMOMETER, 30, true);
            x.strong(is);
            Check.due("STRONGLY waited for", 1, x.measureAll(7200));
            Check.due("none died", 0, x.count(6));
            Check.due("as it was", false, x.strong(is));
        }
    }

    // ---- promise 30

    /** "NONE: there is none such." */
    private static void measuredPlaces() {
        LoneWire x = new LoneWire();
        x.attach(THERMOMETER, 0, 30, 0, false);
        x.measureAll(7200);
        Check.due("nothing KNOWN", NONE, x.measured(0));
        x.roll(false);
        for (int i : new int[] {LEAST, -1, 1, 15, 16, MOST}) {
            Check.due("measured(" + i + ")", NONE, x.measured(i));
        }
        Check.due("not READ yet", NOBODY, x.measured(0));
    }

    /** "by the latest measureAll() behind which no roll() came". */
    private static void measuredTillRoll() {
        LoneWire x = known(THERMOMETER, 30, false);
        x.measureAll(7200);
        Check.due("HEAT", 320, x.measured(0));
        // 72 degrees: no ALARM.
        x.heat(0, 1152);
        Check.due("as it was then", 320, x.measured(0));
        x.pass(false);
        x.anew();
        x.missing();
        x.measure(0, 7200);
        Check.due("others leave it so", 320, x.measured(0));
        x.roll(false);
        Check.due("a roll() came", NOBODY, x.measured(0));
        x.measureAll(7200);
        Check.due("HEAT", 1152, x.measured(0));
        x.roll(true);
        Check.due("of none KNOWN", NONE, x.measured(0));
        x.roll(false);
        Check.due("not READ", NOBODY, x.measured(0));
    }

    // ---- promise 31

    private static void lookPlaces() {
        LoneWire x = new LoneWire();
        x.attach(SWITCH, 0, 30, 0, false);
        Check.due("nothing KNOWN", NONE, x.look(0));
        Check.due("nothing is done", 0, x.count(3));
        x.roll(false);
        int slots = x.count(3);
        for (int i : new int[] {LEAST, -1, 1, 16, MOST}) {
            Check.due("look(" + i + ")", NONE, x.look(i));
        }
        Check.due("nothing is done", slots, x.count(3));
        Check.due("the only one", 0, x.look(0));
        x.detach(0);
        slots = x.count(3);
        Check.due("nobody's PRESENCE", NOBODY, x.look(0));
        Check.due("RESET alone", 1, x.count(3) - slots);
    }

    /** "the lower four, if the upper ones are their complements". */
    private static void lookChecks() {
        LoneWire x = known(SWITCH, 30, false);
        int[] lower = {0, 1, 4, 5, 2, 3, 6, 7, 8, 9, 12, 13, 10, 11, 14, 15};
        for (int i = 0; i < 16; i++) {
            x.press(0, 0, (i & 1) == 1);
            x.press(0, 1, (i & 2) == 2);
            Check.tellAll(x, 90, i >> 2, 255 - (i >> 2));
            Check.due("PINS, OUTPUTS " + i, lower[i], x.look(0));
        }
        x.attach(COUNTER, 0, 30, 0, false);
        x.detach(0);
        Check.due("it has gone: 255", WRONG, x.look(0));
        LoneWire y = known(SWITCH, 30, false);
        y.time(0, 3, 6);
        Check.due("all READ as 0", WRONG, y.look(0));
        y.time(0, 3, 7);
        Check.due("READ rightly", 0, y.look(0));
    }

    // ---- promise 32

    private static void storePlaces() {
        LoneWire x = new LoneWire();
        x.attach(MEMORY, 0, 30, 0, false);
        Check.due("nothing KNOWN", NONE, x.store(0, 0, 1));
        Check.due("nothing is done", 0, x.count(3));
        x.roll(false);
        int slots = x.count(3);
        for (int i : new int[] {LEAST, -1, 1, 16, MOST}) {
            Check.due("store(" + i + ", 0, 1)", NONE, x.store(i, 0, 1));
        }
        Check.due("nothing is done", slots, x.count(3));
        Check.due("the only one", 1, x.store(0, 0, 1));
        x.detach(0);
        slots = x.count(3);
        Check.due("nobody's PRESENCE", NOBODY, x.store(0, 0, 1));
        Check.due("RESET alone", 1, x.count(3) - slots);
    }

    /** "TARGET (0 .. 255)", "TARGET modulo 16": "NONE: .. TARGET can't be". */
    private static void storeTargets() {
        for (int target : new int[] {LEAST, -1, 0, 1, 13, 14, 15, 16, 17, 254, 255, 256, MOST}) {
            LoneWire x = known(MEMORY, 30, false);
            int slots = x.count(3);
            boolean can = target >= 0 && target <= 255;
            Check.due("TARGET " + target, can ? 1 : NONE, x.store(0, target, 0x44332211));
            Check.due("SLOTS", can ? 2 * CHOOSING + 80 : 0, x.count(3) - slots);
            Check.dueDevice("TARGET in store", x, 0, 7, can ? target % 16 : 0);
            for (int k = 0; k < 4; k++) {
                int at = Math.floorMod(target + k, 16);
                Check.due("byte " + at, can ? 0x11 * (k + 1) : 0, x.stored(0, at));
            }
        }
    }

    /** "four bytes of a number (the lowest first)". */
    private static void storeValues() {
        LoneWire x = known(MEMORY, 30, false);
        for (int v : new int[] {0, 1, -1, LEAST, MOST, 0x80, 0xff00ff00}) {
            Check.due("store " + v, 1, x.store(0, 6, v));
            for (int k = 0; k < 4; k++) {
                Check.due("byte " + k + " of " + v, v >> 8 * k & 255, x.stored(0, 6 + k));
            }
            Check.dueDevice("PAD", x, 0, 8, v);
        }
    }

    /** A number whose CHECKSUM behind TARGET 0 is that one. */
    private static int withChecksum(int checksum) {
        for (int v = 0; v < 65536; v++) {
            if (Check.checksum((long) v << 8, 40) == checksum) {
                return v;
            }
        }
        Check.due("there is such a number", true, false);
        return 0;
    }

    /** "8 bits READ (right: CHECKSUM of those 40)". */
    private static void storeChecksum() {
        LoneWire x = known(SWITCH, 30, false);
        int slots = x.count(3);
        Check.due("a SWITCH: 255 is READ", WRONG, x.store(0, 0, 1));
        Check.due("nothing behind that", CHOOSING + 56, x.count(3) - slots);
        slots = x.count(3);
        Check.due("255 is right by chance; but 170 is not READ", WRONG, x.store(0, 0, withChecksum(255)));
        Check.due("all of it", 2 * CHOOSING + 80, x.count(3) - slots);
    }

    /** RESET behind that: the MEMORY holds the line yet, telling the last bit of its CHECKSUM. */
    private static void storeNobodyThen() {
        for (int length : new int[] {80, 90, 91, 95}) {
            LoneWire x = known(MEMORY, 60, false);
            x.time(0, 4, length);
            int slots = x.count(3);
            // Told for 90 US, and RISE: 91.
            boolean right = length >= 91;
            Check.due("length " + length, right ? 1 : NOBODY, x.store(0, 0, withChecksum(127)));
            Check.due("SLOTS", CHOOSING + 56 + (right ? CHOOSING + 24 : 1), x.count(3) - slots);
        }
    }

    /** "8 bits READ (right: 170): 1". */
    private static void storeNotDone() {
        for (int length : new int[] {90, 91}) {
            LoneWire x = known(MEMORY, 60, false);
            x.time(0, 4, length);
            int v = withChecksum(255);
            // All 1 comes across at any length; 170 has zeros, behind which an EDGE is missed.
            Check.due("length " + length, length < 91 ? WRONG : 1, x.store(0, 0, v));
            Check.due("it is stored all the same", v & 255, x.stored(0, 0));
        }
    }

    // ---- promise 33

    /** "RESET (false, and that is all, if nobody's PRESENCE)". */
    private static void raiseNobody() {
        LoneWire x = new LoneWire();
        for (int speed = 0; speed < 2; speed++) {
            x.speed(speed);
            int slots = x.count(3);
            Check.due("nobody there", false, x.raise());
            Check.due("that is all", 1, x.count(3) - slots);
            Check.due("a RESET at SPEED 0", 480, x.trace(0, 0));
            Check.due("SPEED of the host 0", 0, x.count(1));
        }
    }

    /** "RESET: whether somebody's PRESENCE was sampled" at SPEED 1. */
    private static void raiseWithoutFast() {
        for (int fast : new int[] {0, 2, 6}) {
            LoneWire x = new LoneWire();
            x.attach(MEMORY, 0, 30, fast, false);
            Check.due("FAST " + fast, fast > 0, x.raise());
            Check.due("SPEED of the host 1", 1, x.count(1));
            Check.due("RESET, 60, RESET", 10, x.count(3));
            Check.due("a RESET at SPEED 1", 50, x.trace(0, 0));
            Check.dueDevice("SPEED", x, 0, 2, fast > 0 ? 1 : 0);
            x.time(1, 5, 47);
            Check.due("too short by one", false, x.raise());
            x.time(1, 5, 48);
            Check.due("just long enough", fast > 0, x.raise());
        }
    }

    // ---- 16 KNOWN

    /** The 16th is one of them, a 17th is not. */
    private static void sixteenKnown() {
        LoneWire x = new LoneWire();
        x.attach(THERMOMETER, 0, 38, 0, false);
        x.attach(MEMORY, 1, 58, 0, true);
        x.attach(THERMOMETER, 2, 57, 0, false);
        Check.due("16", 16, x.roll(false));
        x.detach(1);
        x.heat(2, 48);
        Check.due("the 16th", 48, x.measure(15, 7200));
        Check.due("a 17th", NONE, x.measure(16, 7200));
        Check.due("each of them", 16, x.measureAll(7200));
        for (int i = 0; i < 16; i++) {
            Check.due("MEASURED " + i, i % 2 == 0 ? 320 : 48, x.measured(i));
        }
        Check.due("a 17th", NONE, x.measured(16));
        Check.due("the 16th is no SWITCH", WRONG, x.look(15));
        Check.due("a 17th", NONE, x.look(16));
        Check.due("the 16th is no MEMORY", WRONG, x.store(15, 0, 1));
        Check.due("a 17th", NONE, x.store(16, 0, 1));
    }
}
