/** Promises 28 to 33. */
public final class InOneGoTest {
    private static final int THERMOMETER = 40;
    private static final int SWITCH = 58;
    private static final int MEMORY = 35;
    private static final int NOBODY = -100002;
    private static final int WRONG = -100004;
    /** RESET, 85 and an ADDRESS. */
    private static final int CHOOSING = 1 + 8 + 64;

    public static void main(String[] args) {
        promise28();
        promise28Fed();
        promise28Nobody();
        promise29();
        promise29Nobody();
        promise30();
        promise31();
        promise32();
        promise32Nobody();
        promise33();
        Check.end();
    }

    private static void promise28() {
        LoneWire x = new LoneWire();
        x.attach(THERMOMETER, 0, 30, 0, false);
        x.attach(SWITCH, 0, 30, 0, false);
        x.roll(false);
        x.heat(0, -555);
        int slots = x.count(3);
        Check.due("HEAT", -555, x.measure(0, 100000));
        Check.due("SLOTS", 2 * CHOOSING + 8 + 8 + 48, x.count(3) - slots);
        Check.due("a SWITCH", WRONG, x.measure(1, 0));
        Check.due("none such", LoneWire.NONE, x.measure(2, 0));
        Check.due("none such", LoneWire.NONE, x.measure(-1, 0));
        Check.due("US can't be", LoneWire.NONE, x.measure(0, -1));
        Check.due("US can't be", LoneWire.NONE, x.measure(0, 100001));
        x.detach(0);
        Check.due("it is gone, the SWITCH is there", WRONG, x.measure(0, 0));
    }

    private static void promise28Fed() {
        LoneWire x = new LoneWire();
        x.attach(THERMOMETER, 0, 30, 0, true);
        x.roll(false);
        x.idle(2000);
        Check.due("STRONGLY", 320, x.measure(0, 7200));
        Check.due("none died", 0, x.count(6));
        Check.due("not STRONGLY, as it was", false, x.strong(false));
        x.strong(true);
        x.idle(2000);
        x.measure(0, 7200);
        Check.due("STRONGLY, as it was", false, x.strong(true));
        x.idle(2000);
        // 2 US of CONVERTING are left behind the waiting: RESET does not kill it.
        Check.due("almost through", 320, x.measure(0, 7198));
        x.strong(false);
        x.idle(2000);
        Check.due("not waited for: it dies at RESET, its PRESENCE is sampled yet", WRONG, x.measure(0, 0));
        Check.due("it died", true, x.count(6) > 0);
    }

    private static void promise28Nobody() {
        LoneWire x = new LoneWire();
        x.attach(THERMOMETER, 0, 30, 0, false);
        x.roll(false);
        x.detach(0);
        int slots = x.count(3);
        Check.due("nobody", NOBODY, x.measure(0, 100));
        Check.due("that is all", 1, x.count(3) - slots);
    }

    private static void promise29() {
        LoneWire x = new LoneWire();
        x.attach(THERMOMETER, 0, 20, 0, true);
        x.attach(THERMOMETER, 1, 30, 0, false);
        x.attach(MEMORY, 0, 40, 0, false);
        x.roll(false);
        x.heat(0, 100);
        x.heat(1, -100);
        Check.due("US can't be", LoneWire.NONE, x.measureAll(-1));
        Check.due("US can't be", LoneWire.NONE, x.measureAll(100001));
        int slots = x.count(3);
        Check.due("two", 2, x.measureAll(7200));
        Check.due("SLOTS", 1 + 16 + 2 * (CHOOSING + 8 + 48), x.count(3) - slots);
        Check.due("the first", 100, x.measured(0));
        Check.due("the second", -100, x.measured(1));
        Check.due("a MEMORY", NOBODY, x.measured(2));
        Check.due("STRONGLY as it was", false, x.strong(false));
        x.detach(1);
        Check.due("one", 1, x.measureAll(7200));
        Check.due("wrong", WRONG, x.measured(1));
        Check.due("of US nothing happens", LoneWire.NONE, x.measureAll(-1));
        Check.due("as before", 100, x.measured(0));
    }

    private static void promise29Nobody() {
        LoneWire x = new LoneWire();
        Check.due("nobody", NOBODY, x.measureAll(10));
        Check.due("one SLOT", 1, x.count(3));
        x.attach(MEMORY, 0, 40, 0, false);
        Check.due("none KNOWN", 0, x.measureAll(10));
        Check.due("SLOTS", 1 + 17, x.count(3));
        Check.due("TIME", 900 + 900 + 16 * 95 + 10, x.count(2));
    }

    private static void promise30() {
        LoneWire x = new LoneWire();
        x.attach(THERMOMETER, 0, 20, 0, false);
        Check.due("none such", LoneWire.NONE, x.measured(0));
        x.roll(false);
        Check.due("not READ", NOBODY, x.measured(0));
        Check.due("none such", LoneWire.NONE, x.measured(1));
        Check.due("none such", LoneWire.NONE, x.measured(-1));
        x.measureAll(7200);
        Check.due("HEAT", 320, x.measured(0));
        x.heat(0, 5);
        x.measure(0, 7200);
        Check.due("measure() is another", 320, x.measured(0));
        x.roll(false);
        Check.due("a roll() came", NOBODY, x.measured(0));
        x.measureAll(7200);
        Check.due("HEAT", 5, x.measured(0));
        x.detach(0);
        x.measureAll(7200);
        Check.due("not READ by the latest", NOBODY, x.measured(0));
    }

    private static void promise31() {
        LoneWire x = new LoneWire();
        x.attach(SWITCH, 0, 20, 0, false);
        x.attach(MEMORY, 0, 30, 0, false);
        x.roll(false);
        Check.due("nothing", 0, x.look(0));
        x.press(0, 0, true);
        Check.due("PIN 0", 1, x.look(0));
        Check.dueDevice("its ALARM is over", x, 0, 5, 0);
        x.press(0, 1, true);
        Check.tellAll(x, 90, 2, 253);
        int slots = x.count(3);
        Check.due("both PINS, OUTPUT 1", 13, x.look(0));
        Check.due("SLOTS", CHOOSING + 16, x.count(3) - slots);
        Check.due("a MEMORY", WRONG, x.look(1));
        Check.due("none such", LoneWire.NONE, x.look(2));
        Check.due("none such", LoneWire.NONE, x.look(-1));
        x.detach(0);
        x.detach(1);
        Check.due("nobody", NOBODY, x.look(0));
    }

    private static void promise32() {
        LoneWire x = new LoneWire();
        x.attach(MEMORY, 0, 30, 0, false);
        x.attach(SWITCH, 0, 30, 0, false);
        x.roll(false);
        int slots = x.count(3);
        Check.due("stored", 1, x.store(1, 255, 0x84030201));
        Check.due("SLOTS", 2 * CHOOSING + 8 + 40 + 8 + 8 + 8 + 8, x.count(3) - slots);
        Check.dueDevice("TARGET", x, 0, 7, 15);
        int[] due = {2, 3, 0x84};
        Check.due("byte 15", 1, x.stored(0, 15));
        for (int k = 0; k < 3; k++) {
            Check.due("byte " + k, due[k], x.stored(0, k));
        }
        Check.due("TARGET can't be", LoneWire.NONE, x.store(1, 256, 0));
        Check.due("TARGET can't be", LoneWire.NONE, x.store(1, -1, 0));
        Check.due("none such", LoneWire.NONE, x.store(2, 0, 0));
        Check.due("none such", LoneWire.NONE, x.store(-1, 0, 0));
        slots = x.count(3);
        Check.due("a SWITCH", WRONG, x.store(0, 0, 1));
        Check.due("nothing behind that", CHOOSING + 8 + 40 + 8, x.count(3) - slots);
    }

    private static void promise32Nobody() {
        LoneWire x = new LoneWire();
        x.attach(MEMORY, 0, 30, 0, false);
        x.roll(false);
        x.detach(0);
        Check.due("nobody", NOBODY, x.store(0, 0, 1));
    }

    private static void promise33() {
        LoneWire x = new LoneWire();
        x.speed(1);
        Check.due("nobody", false, x.raise());
        Check.due("SPEED 0", 0, x.count(1));
        Check.due("that is all", 1, x.count(3));
        x.attach(MEMORY, 0, 30, 0, false);
        Check.due("none with FAST", false, x.raise());
        Check.due("SPEED 1", 1, x.count(1));
        Check.due("SLOTS", 1 + 10, x.count(3));
        x.attach(SWITCH, 0, 60, 4, false);
        Check.due("one with FAST", true, x.raise());
        Check.due("SPEED 1", 1, x.count(1));
        Check.dueDevice("SPEED", x, 1, 2, 1);
        Check.due("FOUND at SPEED 1", 1, x.roll(false));
        Check.due("the SWITCH", 58, x.known(0, 0));
        Check.due("TIME of a PASS at SPEED 1", 100 + 200 * 14, timeOfPass(x));
    }

    private static int timeOfPass(LoneWire x) {
        int before = x.count(2);
        x.pass(false);
        return x.count(2) - before;
    }
}
