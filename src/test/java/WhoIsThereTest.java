/** Promises 1 to 8. */
public final class WhoIsThereTest {
    private static final int THERMOMETER = 40;
    private static final int SWITCH = 58;
    private static final int MEMORY = 35;
    private static final int COUNTER = 29;

    public static void main(String[] args) {
        promise1();
        promise2();
        promise2Full();
        promise3();
        promise3HoldGoes();
        promise4();
        promise5();
        promise6();
        promise6Kinds();
        promise7();
        promise8();
        Check.end();
    }

    private static void promise1() {
        LoneWire x = new LoneWire();
        Check.due("new: DEVICES", 0, x.count(0));
        Check.due("new: SPEED", 0, x.count(1));
        Check.due("new: TIME", 0, x.count(2));
        Check.due("new: KNOWN", 0, x.count(7));
        Check.due("new: STRONGLY", false, x.strong(false));
        Check.due("new: LAST", LoneWire.NONE, x.last());
        Check.due("new: FORKS", 0, x.forks());
        for (int k = 0; k < 8; k++) {
            Check.due("new: FOUND", 0, x.found(k));
        }
    }

    private static void promise2() {
        LoneWire x = new LoneWire();
        for (int family : new int[] {-1, 0, 28, 30, 34, 39, 41, 57, 59, 296}) {
            Check.cantBe("FAMILY " + family, () -> x.attach(family, 0, 30, 0, false));
        }
        for (int slow : new int[] {Integer.MIN_VALUE, 0, 14, 61, Integer.MAX_VALUE}) {
            Check.cantBe("SLOW " + slow, () -> x.attach(THERMOMETER, 0, slow, 0, false));
        }
        for (int fast : new int[] {-1, 1, 7, Integer.MAX_VALUE}) {
            Check.cantBe("FAST " + fast, () -> x.attach(THERMOMETER, 0, 30, fast, false));
        }
        Check.cantBe("SERIAL", () -> x.attach(THERMOMETER, -1, 30, 0, false));
        Check.due("first", 0, x.attach(THERMOMETER, 0, 15, 0, false));
        Check.cantBe("the same again", () -> x.attach(THERMOMETER, 0, 20, 2, true));
        Check.due("another SERIAL", 1, x.attach(THERMOMETER, Integer.MAX_VALUE, 60, 2, false));
        Check.due("another FAMILY", 2, x.attach(SWITCH, 0, 60, 6, true));
        Check.dueDevice("greatest SERIAL", x, 1, 1, Integer.MAX_VALUE);
        Check.dueDevice("it is DEAF", x, 0, 3, 0);
        Check.dueDevice("its SPEED", x, 2, 2, 0);
        Check.due("least free", 2, x.detach(1));
        Check.due("least free", 1, x.attach(COUNTER, 0, 30, 0, false));
    }

    private static void promise2Full() {
        LoneWire x = new LoneWire();
        for (int i = 0; i < 8; i++) {
            Check.due("number", i, x.attach(MEMORY, i, 30, 0, false));
        }
        Check.due("a ninth", LoneWire.NONE, x.attach(MEMORY, 8, 30, 0, false));
        Check.due("still 8", 8, x.count(0));
        Check.cantBe("ahead of NONE", () -> x.attach(MEMORY, 7, 30, 0, false));
        Check.cantBe("ahead of NONE", () -> x.attach(41, 9, 30, 0, false));
    }

    private static void promise3() {
        LoneWire x = new LoneWire();
        x.attach(MEMORY, 0, 30, 0, false);
        x.attach(MEMORY, 1, 30, 0, false);
        Check.noSuch("detach(2)", () -> x.detach(2));
        Check.noSuch("detach(-1)", () -> x.detach(-1));
        Check.noSuch("detach(8)", () -> x.detach(8));
        Check.due("one left", 1, x.detach(0));
        Check.noSuch("it is gone", () -> x.detach(0));
        Check.due("none left", 0, x.detach(1));
        Check.due("nobody answers", false, x.reset());
    }

    private static void promise3HoldGoes() {
        LoneWire x = new LoneWire();
        x.attach(MEMORY, 0, 30, 0, false);
        // PRESENCE from 480 + 1 + 30 on for 120 US: at 560 it holds.
        x.slot(480, 0, 560);
        Check.due("it still goes", 0, x.slot(1, 5, 5));
        x.detach(0);
        Check.due("what it holds goes, too", 1, x.slot(1, 5, 5));
    }

    private static void promise4() {
        LoneWire x = new LoneWire();
        x.attach(THERMOMETER, 0, 30, 0, false);
        x.attach(SWITCH, 0, 30, 0, false);
        Check.due("at first", 320, x.heat(0, -880));
        Check.due("the least", -880, x.heat(0, 2000));
        Check.due("the most", 2000, x.heat(0, 16));
        Check.cantBe("too cold", () -> x.heat(0, -881));
        Check.cantBe("too hot", () -> x.heat(0, 2001));
        Check.cantBe("a SWITCH", () -> x.heat(1, 0));
        Check.noSuch("nobody, ahead of all else", () -> x.heat(2, 5000));
        Check.due("as it was", 16, x.heat(0, 0));
        Check.dueDevice("in store only behind a CONVERSION", x, 0, 7, 1360);
    }

    private static void promise5() {
        LoneWire x = new LoneWire();
        x.attach(SWITCH, 0, 30, 0, false);
        x.attach(COUNTER, 0, 30, 0, false);
        Check.due("not PRESSED", false, x.press(0, 1, false));
        Check.dueDevice("no ALARM", x, 0, 5, 0);
        Check.due("PRESSED", true, x.press(0, 1, true));
        Check.dueDevice("ALARM", x, 0, 5, 1);
        Check.dueDevice("PIN 1", x, 0, 7, 2);
        Check.due("again", false, x.press(0, 1, true));
        Check.due("the other", true, x.press(0, 0, true));
        Check.dueDevice("both", x, 0, 7, 3);
        Check.due("let go", true, x.press(0, 1, false));
        Check.dueDevice("PIN 0", x, 0, 7, 1);
        Check.cantBe("PIN 2", () -> x.press(0, 2, true));
        Check.cantBe("PIN -1", () -> x.press(0, -1, true));
        Check.cantBe("a COUNTER", () -> x.press(1, 0, true));
        Check.noSuch("nobody", () -> x.press(2, 7, true));
    }

    private static void promise6() {
        LoneWire x = new LoneWire();
        x.attach(THERMOMETER, 5, 30, 4, true);
        x.attach(THERMOMETER, 6, 30, 0, false);
        int[] due = {40, 5, 0, 0, 2000, 0, 0, 1360, 75, 70, 3};
        for (int what = 0; what < due.length; what++) {
            Check.dueDevice("a new one", x, 0, what, due[what]);
        }
        Check.dueDevice("CHECKSUM", x, 0, 11, x.checksum(40 + 5 * 256, 56));
        Check.dueDevice("not MINE", x, 0, 12, 0);
        Check.dueDevice("not FED", x, 1, 4, LoneWire.NONE);
        Check.dueDevice("others", x, 0, 13, LoneWire.NONE);
        Check.dueDevice("others", x, 0, -1, LoneWire.NONE);
        Check.noSuch("nobody", () -> x.device(2, 0));
        Check.noSuch("nobody, ahead of NONE", () -> x.device(-1, 99));
        x.reset();
        Check.dueDevice("it LISTENS", x, 0, 3, 1);
        x.write(60, 8);
        Check.dueDevice("SPEED", x, 0, 2, 1);
        Check.dueDevice("CHOSEN, it LISTENS", x, 0, 3, 1);
        Check.dueDevice("without FAST it is DEAF", x, 1, 3, 0);
    }

    private static void promise6Kinds() {
        LoneWire x = new LoneWire();
        x.attach(SWITCH, 0, 30, 0, false);
        x.attach(MEMORY, 0, 30, 0, false);
        x.attach(COUNTER, 0, 30, 0, false);
        x.press(0, 1, true);
        x.pulse(2, 9);
        Check.tellAll(x, 90, 1, 254);
        Check.dueDevice("OUTPUTS", x, 0, 8, 1);
        Check.tellAll(x, 15, 0x1b, 0x11, 0x22, 0x33, 0x84);
        Check.dueDevice("TARGET", x, 1, 7, 11);
        Check.dueDevice("PAD", x, 1, 8, 0x84332211);
        Check.tellAll(x, 77, 3, 2, 1, 0x80);
        Check.dueDevice("COUNT", x, 2, 7, 9);
        Check.dueDevice("LIMIT, the highest cut", x, 2, 8, 0x010203);
        Check.dueDevice("PINS", x, 0, 7, 2);
        for (int d = 0; d < 3; d++) {
            Check.dueDevice("of others 0", x, d, 6, 0);
            Check.dueDevice("of others 0", x, d, 9, 0);
            Check.dueDevice("of others 0", x, d, 10, 0);
        }
    }

    private static void promise7() {
        LoneWire x = new LoneWire();
        x.attach(COUNTER, 0, 30, 0, true);
        x.attach(MEMORY, 0, 30, 0, false);
        Check.due("the most", 1000, x.pulse(0, 1000));
        Check.due("the least", 1001, x.pulse(0, 1));
        Check.dueDevice("no LIMIT, no ALARM", x, 0, 5, 0);
        Check.cantBe("0", () -> x.pulse(0, 0));
        Check.cantBe("1001", () -> x.pulse(0, 1001));
        Check.cantBe("a MEMORY", () -> x.pulse(1, 1));
        Check.noSuch("nobody", () -> x.pulse(2, 0));
        Check.tellAll(x, 77, 0xec, 3, 0, 0);
        Check.dueDevice("LIMIT 1004", x, 0, 8, 1004);
        x.pulse(0, 2);
        Check.dueDevice("below LIMIT", x, 0, 5, 0);
        x.pulse(0, 1);
        Check.dueDevice("COUNT is LIMIT", x, 0, 5, 1);
        // Dead: none come.
        x.slot(2000, 0, 2000);
        x.slot(2000, 0, 2000);
        Check.dueDevice("DEAD", x, 0, 3, 3);
        Check.due("none while DEAD", 0, x.pulse(0, 10));
        Check.dueDevice("in store as at first", x, 0, 8, 0);
    }

    private static void promise8() {
        LoneWire x = new LoneWire();
        x.attach(MEMORY, 0, 30, 0, false);
        x.attach(SWITCH, 0, 30, 0, false);
        for (int k = 0; k < 16; k++) {
            Check.due("at first", 0, x.stored(0, k));
        }
        Check.tellAll(x, 15, 14, 1, 2, 3, 255);
        Check.tellAll(x, 85, 14);
        Check.due("byte 14", 1, x.stored(0, 14));
        Check.due("byte 15", 2, x.stored(0, 15));
        Check.due("behind 15 comes 0", 3, x.stored(0, 0));
        Check.due("byte 1", 255, x.stored(0, 1));
        Check.due("byte 2", 0, x.stored(0, 2));
        Check.cantBe("byte 16", () -> x.stored(0, 16));
        Check.cantBe("byte -1", () -> x.stored(0, -1));
        Check.cantBe("a SWITCH", () -> x.stored(1, 0));
        Check.noSuch("nobody", () -> x.stored(5, 99));
    }
}
