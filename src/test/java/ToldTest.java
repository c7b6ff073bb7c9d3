/** Promises 34 to 40. */
public final class ToldTest {
    private static final int THERMOMETER = 40;
    private static final int SWITCH = 58;
    private static final int MEMORY = 35;
    private static final int COUNTER = 29;

    public static void main(String[] args) {
        promise34();
        promise35();
        promise36();
        promise37();
        promise37None();
        promise38();
        promise38Presence();
        promise39();
        promise40();
        Check.end();
    }

    private static void promise34() {
        LoneWire x = new LoneWire();
        x.attach(THERMOMETER, 0, 30, 0, true);
        x.attach(THERMOMETER, 1, 30, 0, false);
        x.attach(SWITCH, 0, 30, 0, true);
        Check.due("CHARGE 2000", 1000, x.lasts(0));
        Check.due("not FED", 7200, x.lasts(1));
        Check.due("another KIND", LoneWire.NONE, x.lasts(2));
        Check.noSuch("nobody", () -> x.lasts(3));
        x.slot(100, 0, 101);
        Check.due("CHARGE 1899", 949, x.lasts(0));
        x.idle(10);
        Check.tellAll(x, 78, 75, 70, 0);
        x.idle(2000);
        Check.due("no more than a whole one", 900, x.lasts(0));
        Check.due("not FED", 900, x.lasts(1));
        for (int i = 0; i < 3; i++) {
            x.slot(1000, 0, 1000);
        }
        Check.dueDevice("DEAD", x, 0, 3, 3);
        Check.due("DEAD", 0, x.lasts(0));
    }

    private static void promise35() {
        LoneWire x = new LoneWire();
        Check.due("none", LoneWire.NONE, x.branch(0));
        x.attach(MEMORY, 0, 30, 0, false);
        x.attach(COUNTER, 0, 30, 0, false);
        x.attach(THERMOMETER, 3, 30, 0, false);
        x.attach(THERMOMETER, 2, 30, 0, false);
        x.attach(THERMOMETER, 1, 30, 0, false);
        // 40 by 40: 2 (01), 1 (10), 3 (11); then 29, 35.
        int[] due = {3, 4, 2, 1, 0};
        for (int k = 0; k < 5; k++) {
            Check.due("branch(" + k + ")", due[k], x.branch(k));
        }
        Check.due("none such", LoneWire.NONE, x.branch(5));
        Check.due("none such", LoneWire.NONE, x.branch(-1));
        x.detach(4);
        Check.due("without it", 2, x.branch(1));
    }

    private static void promise36() {
        LoneWire x = new LoneWire();
        x.attach(THERMOMETER, 0, 30, 0, false);
        x.attach(THERMOMETER, 0x40000000, 30, 0, false);
        x.attach(SWITCH, 0, 30, 0, false);
        x.attach(MEMORY, 0, 30, 0, false);
        Check.due("in the SERIAL", 38, x.parts(0, 1));
        Check.due("the first of all", 0, x.parts(0, 3));
        Check.due("the other way", 38, x.parts(1, 0));
        Check.due("in the FAMILY", 1, x.parts(1, 2));
        Check.due("both are one", LoneWire.NONE, x.parts(2, 2));
        Check.due("none such", LoneWire.NONE, x.parts(0, 4));
        Check.due("none such", LoneWire.NONE, x.parts(-1, 0));
        Check.due("none such", LoneWire.NONE, x.parts(8, 8));
    }

    private static void dueLimits(LoneWire x, int speed, int what, int least, int greatest) {
        Check.due("limit(" + speed + ", " + what + ", false)", least, x.limit(speed, what, false));
        Check.due("limit(" + speed + ", " + what + ", true)", greatest, x.limit(speed, what, true));
    }

    private static void promise37() {
        LoneWire x = new LoneWire();
        x.attach(MEMORY, 0, 15, 6, false);
        x.attach(MEMORY, 1, 60, 2, false);
        dueLimits(x, 0, 0, 1, 14);
        dueLimits(x, 0, 1, 60, 479);
        dueLimits(x, 0, 2, 1, 13);
        // A 0 is told for 22 US, and RISE.
        dueLimits(x, 0, 3, 7, 22);
        dueLimits(x, 1, 0, 1, 1);
        dueLimits(x, 1, 1, 6, 47);
        // 2 and 1, and RISE: it samples at 3.
        dueLimits(x, 1, 2, 1, 2);
        dueLimits(x, 1, 3, 2, 3);
        x.time(0, 4, 20);
        dueLimits(x, 0, 3, 7, 19);
        x.time(0, 4, 8);
        dueLimits(x, 0, 3, 7, 7);
        x.time(0, 4, 7);
        dueLimits(x, 0, 3, LoneWire.NONE, LoneWire.NONE);
        x.time(0, 3, 22);
        dueLimits(x, 0, 2, 1, 21);
        x.time(0, 3, 23);
        dueLimits(x, 0, 2, LoneWire.NONE, LoneWire.NONE);
        x.time(0, 3, 1);
        dueLimits(x, 0, 2, LoneWire.NONE, LoneWire.NONE);
    }

    private static void promise37None() {
        LoneWire x = new LoneWire();
        dueLimits(x, 0, 0, LoneWire.NONE, LoneWire.NONE);
        x.attach(MEMORY, 0, 15, 0, false);
        dueLimits(x, 0, 4, LoneWire.NONE, LoneWire.NONE);
        dueLimits(x, 0, -1, LoneWire.NONE, LoneWire.NONE);
        dueLimits(x, 2, 0, LoneWire.NONE, LoneWire.NONE);
        dueLimits(x, -1, 0, LoneWire.NONE, LoneWire.NONE);
        dueLimits(x, 1, 0, LoneWire.NONE, LoneWire.NONE);
        x.attach(MEMORY, 1, 15, 2, false);
        dueLimits(x, 1, 0, 1, 1);
        x.attach(MEMORY, 2, 15, 0, false);
        // RISE is 2 now: a 1 comes too late for a CLOCK of 2, a 0 of 1 US does.
        dueLimits(x, 1, 0, LoneWire.NONE, LoneWire.NONE);
        dueLimits(x, 1, 1, 1, 47);
    }

    private static void dueBlame(LoneWire x, String what, int device, int speed, int due) {
        Check.due(what + ": blame(" + device + ", " + speed + ")", due, x.blame(device, speed));
    }

    /** Sets one of TIMES, looks, and puts it back. */
    private static void dueBlameWith(LoneWire x, int speed, int what, int v, int due) {
        int was = x.time(speed, what, v);
        dueBlame(x, "TIME " + what + " is " + v, 0, speed, due);
        x.time(speed, what, was);
    }

    private static void promise38() {
        LoneWire x = new LoneWire();
        Check.noSuch("nobody", () -> x.blame(0, 5));
        x.attach(MEMORY, 0, 30, 4, false);
        x.attach(MEMORY, 1, 30, 0, false);
        dueBlame(x, "all is right", 0, 0, 0);
        dueBlame(x, "all is right", 0, 1, 0);
        dueBlame(x, "no FAST", 1, 1, LoneWire.NONE);
        dueBlame(x, "no such SPEED", 0, 2, LoneWire.NONE);
        dueBlame(x, "no such SPEED", 0, -1, LoneWire.NONE);
        dueBlameWith(x, 0, 0, 29, 0);
        dueBlameWith(x, 0, 0, 30, 1);
        dueBlameWith(x, 0, 1, 30, 0);
        dueBlameWith(x, 0, 1, 29, 2);
        dueBlameWith(x, 0, 1, 479, 0);
        dueBlameWith(x, 0, 1, 480, 2);
        dueBlameWith(x, 1, 1, 47, 0);
        dueBlameWith(x, 1, 1, 48, 2);
        dueBlameWith(x, 0, 3, 45, 0);
        dueBlameWith(x, 0, 3, 46, 4);
        dueBlameWith(x, 0, 3, 7, 0);
        dueBlameWith(x, 0, 3, 6, 8);
        // A low behind the sample: a 1 is READ as 0; low till 60 is a 0, too.
        dueBlameWith(x, 0, 2, 14, 8);
        dueBlameWith(x, 0, 2, 95, 8 + 16);
        dueBlameWith(x, 0, 2, 1000, 8 + 16);
        dueBlameWith(x, 0, 4, 46, 0);
        dueBlameWith(x, 0, 4, 45, 16);
        // The SLOT is as long as it samples.
        x.time(0, 4, 10);
        dueBlameWith(x, 0, 3, 46, 4);
        dueBlameWith(x, 0, 3, 45, 16);
    }

    private static void promise38Presence() {
        LoneWire x = new LoneWire();
        x.attach(MEMORY, 0, 30, 4, false);
        // PRESENCE from 31 on till 151 behind letting go, and RISE.
        dueBlameWith(x, 0, 6, 31, 0);
        dueBlameWith(x, 0, 6, 30, 32);
        dueBlameWith(x, 0, 6, 151, 0);
        dueBlameWith(x, 0, 6, 152, 32);
        dueBlameWith(x, 0, 7, 152, 0);
        dueBlameWith(x, 0, 7, 151, 64);
        dueBlameWith(x, 0, 7, 1, 64);
        x.time(0, 7, 1);
        dueBlameWith(x, 0, 6, 152, 32);
        dueBlameWith(x, 0, 6, 30, 32);
        dueBlameWith(x, 0, 6, 31, 64);
        x.time(0, 7, 420);
        dueBlameWith(x, 0, 5, 479, 128);
        dueBlameWith(x, 0, 5, 1000, 0);
        dueBlameWith(x, 1, 5, 48, 0);
        dueBlameWith(x, 1, 5, 47, 128);
        // By FAST, whatever RESET does: from 5 on till 21.
        x.time(1, 5, 1000);
        dueBlameWith(x, 1, 6, 5, 0);
        dueBlameWith(x, 1, 6, 22, 32);
        dueBlameWith(x, 1, 7, 21, 64);
    }

    private static void promise39() {
        LoneWire x = new LoneWire();
        Check.due("no bits", 0, x.checksum(-1, 0));
        Check.due("a 1", 140, x.checksum(1, 1));
        Check.due("a 0", 0, x.checksum(0, 1));
        Check.due("1, then 0", 70, x.checksum(1, 2));
        Check.due("1, then 1", 70 ^ 140, x.checksum(3, 2));
        Check.due("the lowest alone", 140, x.checksum(0xffL, 1));
        Check.due("an ADDRESS", 162, x.checksum(0x1b81c02L, 56));
        Check.due("with its CHECKSUM", 0, x.checksum(0xa200000001b81c02L, 64));
        Check.due("can't be", LoneWire.NONE, x.checksum(1, 65));
        Check.due("can't be", LoneWire.NONE, x.checksum(1, -1));
    }

    private static void promise40() {
        LoneWire x = new LoneWire();
        x.attach(MEMORY, 0, 30, 4, true);
        x.attach(MEMORY, 1, 30, 4, false);
        x.attach(MEMORY, 2, 30, 0, false);
        x.reset();
        x.slot(10, 0, 20);
        x.slot(10, 0, 40);
        x.roll(false);
        Check.due("DEVICES", 3, x.count(0));
        Check.due("SPEED", 0, x.count(1));
        Check.due("TIME", 960 + 3 * (900 + 200 * 95), x.count(2));
        Check.due("SLOTS", 3 + 3 * 201, x.count(3));
        Check.due("RESETS, each one", 3 + 9, x.count(4));
        Check.due("EDGES missed, each one", 3, x.count(5));
        Check.due("none died", 0, x.count(6));
        Check.due("KNOWN", 3, x.count(7));
        Check.due("RISE", 2, x.count(8));
        Check.due("others", LoneWire.NONE, x.count(9));
        Check.due("others", LoneWire.NONE, x.count(-1));
        // Full, it is at 0 behind the second and DEAD behind the third; all but the first begin LOW.
        x.idle(2000);
        for (int i = 0; i < 4; i++) {
            x.slot(1000, 0, 1000);
        }
        Check.due("one died", 1, x.count(6));
        Check.due("the DEAD one misses none", 3 + 3 + 3 + 2, x.count(5));
        Check.due("the first of these RESET all", 3 + 9 + 3, x.count(4));
        x.speed(1);
        Check.due("SPEED", 1, x.count(1));
        resetsOfTheDead();
    }

    private static void resetsOfTheDead() {
        LoneWire x = new LoneWire();
        x.attach(THERMOMETER, 0, 15, 0, true);
        Check.tellAll(x, 68);
        Check.due("RESET ahead of 68", 1, x.count(4));
        x.slot(480, 0, 900);
        Check.due("it died", 1, x.count(6));
        Check.due("who dies in the SLOT is not RESET", 1, x.count(4));
        x.slot(480, 0, 900);
        Check.due("DEAD it sees none", 1, x.count(4));
        // It is at 0 behind the LOW US of the SLOT, and alive again behind all others.
        x.idle(2000);
        Check.tellAll(x, 68);
        Check.due("RESET again", 2, x.count(4));
        x.slot(480, 0, 2000);
        Check.due("it died again", 2, x.count(6));
        Check.dueDevice("and is alive, but DEAF", x, 0, 3, 0);
        Check.due("who has been DEAD in the SLOT is not RESET", 2, x.count(4));
        x.slot(480, 0, 900);
        Check.due("alive it is RESET", 3, x.count(4));
    }
}
