/** Promises 9 to 17, and the Terms of the line: EDGES, RISE, RESET, CHARGE. */
public final class LineTest {
    private static final int THERMOMETER = 40;
    private static final int SWITCH = 58;
    private static final int MEMORY = 35;

    public static void main(String[] args) {
        promise9();
        promise10();
        promise11();
        promise11Rise();
        promise12();
        promise13();
        promise14();
        promise15();
        promise16();
        promise17();
        edges();
        presenceBehindTheSlot();
        presenceCountsForOthers();
        speeds();
        chargeInParts();
        conversionEndsInLow();
        deadInReset();
        deadHoldsNothing();
        deadInTheFirstPart();
        Check.end();
    }

    private static void promise9() {
        LoneWire x = new LoneWire();
        Check.due("what it was", 0, x.speed(1));
        Check.due("what it was", 1, x.speed(1));
        Check.due("can't be", LoneWire.NONE, x.speed(2));
        Check.due("can't be", LoneWire.NONE, x.speed(-1));
        Check.due("as it was", 1, x.count(1));
        x.write(0, 1);
        Check.due("TIMES of SPEED 1", 14, x.count(2));
        Check.due("low for a 0", 8, x.trace(0, 0));
    }

    private static void promise10() {
        LoneWire x = new LoneWire();
        int[][] first = {{6, 60, 6, 14, 95, 480, 75, 420}, {1, 8, 1, 3, 14, 50, 9, 50}};
        for (int s = 0; s < 2; s++) {
            for (int what = 0; what < 8; what++) {
                Check.due("at first", first[s][what], x.time(s, what, 1000));
                Check.due("the most", 1000, x.time(s, what, 1));
                Check.due("the least", 1, x.time(s, what, 7));
                Check.due("0", LoneWire.NONE, x.time(s, what, 0));
                Check.due("1001", LoneWire.NONE, x.time(s, what, 1001));
            }
            Check.due("no such", LoneWire.NONE, x.time(s, 8, 5));
            Check.due("no such", LoneWire.NONE, x.time(s, -1, 5));
        }
        Check.due("no such SPEED", LoneWire.NONE, x.time(2, 0, 5));
        Check.due("no such SPEED", LoneWire.NONE, x.time(-1, 0, 5));
        Check.due("as it was", 7, x.time(0, 0, 7));
    }

    private static void promise11() {
        LoneWire x = new LoneWire();
        int[][] wrong = {{0, 0, 5}, {-1, 0, 5}, {6, 0, 5}, {5, 0, 2001}, {5, -1, 10}, {5, 11, 10}};
        for (int[] w : wrong) {
            Check.due("can't be", LoneWire.NONE, x.slot(w[0], w[1], w[2]));
        }
        Check.due("nothing happens", 0, x.count(2));
        Check.due("nothing happens", 0, x.count(3));
        Check.due("held", 0, x.slot(5, 0, 10));
        Check.due("let go less than RISE ago", 0, x.slot(5, 5, 10));
        Check.due("RISE is over", 1, x.slot(5, 6, 10));
        Check.due("at its end", 1, x.slot(5, 10, 10));
        Check.due("the longest", 0, x.slot(2000, 2000, 2000));
        Check.due("the shortest", 0, x.slot(1, 1, 1));
        Check.due("TIME", 2041, x.count(2));
        Check.due("SLOTS", 6, x.count(3));
    }

    private static void promise11Rise() {
        LoneWire x = new LoneWire();
        int[] rises = {1, 1, 1, 2, 2, 2, 3, 3, 3};
        for (int n = 0; n < rises.length; n++) {
            Check.due("RISE of " + n, rises[n], x.count(8));
            Check.due("LOW yet", 0, x.slot(5, 4 + rises[n], 400));
            Check.due("not LOW", 1, x.slot(5, 5 + rises[n], 400));
            x.attach(MEMORY, n, 20, 0, false);
        }
    }

    private static void promise12() {
        LoneWire x = new LoneWire();
        x.attach(MEMORY, 0, 20, 0, false);
        x.attach(MEMORY, 1, 30, 0, false);
        Check.due("none yet", LoneWire.NONE, x.trace(0, 0));
        x.reset();
        // PRESENCES: 501 .. 581 and 511 .. 631, RISE 1.
        int[] reset = {480, 900, 0, 2, 2, 481 + 131};
        x.write(0, 1);
        int[] zero = {60, 95, LoneWire.NONE, 2, 0, 61};
        x.slot(2, 50, 70);
        int[] one = {2, 70, 1, 2, 0, 3};
        int[][] due = {one, zero, reset};
        for (int k = 0; k < 3; k++) {
            for (int what = 0; what < 6; what++) {
                Check.due("trace(" + k + ", " + what + ")", due[k][what], x.trace(k, what));
            }
        }
        Check.due("none such", LoneWire.NONE, x.trace(3, 0));
        Check.due("none such", LoneWire.NONE, x.trace(-1, 0));
        Check.due("others", LoneWire.NONE, x.trace(0, 6));
        Check.due("others", LoneWire.NONE, x.trace(0, -1));
        x.idle(50);
        Check.due("waiting is no SLOT", 70, x.trace(0, 1));
        for (int i = 0; i < 29; i++) {
            x.slot(1, 0, 100 + i);
        }
        Check.due("the 32nd", 480, x.trace(31, 0));
        x.slot(1, 0, 99);
        Check.due("it has gone", 60, x.trace(31, 0));
        Check.due("no more than 32", LoneWire.NONE, x.trace(32, 0));
    }

    private static void promise13() {
        LoneWire x = new LoneWire();
        Check.due("nobody", false, x.reset());
        Check.due("TIME", 900, x.count(2));
        x.attach(MEMORY, 0, 60, 0, false);
        Check.due("somebody", true, x.reset());
        // Held from 61 on behind letting go.
        x.time(0, 6, 60);
        Check.due("too early", false, x.reset());
        x.time(0, 6, 61);
        Check.due("just in time", true, x.reset());
        // 61 + 240, and RISE.
        x.time(0, 6, 301);
        Check.due("just in time", true, x.reset());
        x.time(0, 6, 302);
        Check.due("too late", false, x.reset());
        Check.due("RESETS", 5, x.count(4));
        x.time(0, 6, 500);
        x.reset();
        Check.due("as long as it samples", 980, x.trace(0, 1));
        x.time(0, 6, 75);
        x.time(0, 5, 479);
        Check.due("too short", false, x.reset());
        Check.due("no RESET more", 6, x.count(4));
    }

    private static void promise14() {
        LoneWire x = new LoneWire();
        Check.due("0 bits", 0, x.write(255, 0));
        Check.due("9 bits", LoneWire.NONE, x.write(255, 9));
        Check.due("-1 bits", LoneWire.NONE, x.write(255, -1));
        Check.due("3 bits", 285, x.write(-7, 3));
        Check.due("the lowest first", 6, x.trace(2, 0));
        Check.due("then a 0", 60, x.trace(1, 0));
        Check.due("then a 0", 60, x.trace(0, 0));
        x.time(0, 1, 100);
        Check.due("as long as low", 385, x.write(0, 1));
        x.time(0, 3, 200);
        Check.due("it does not sample", 485, x.write(0, 1));
        x.time(0, 4, 1000);
        for (int i = 0; i < 40; i++) {
            x.idle(100000);
        }
        Check.due("TIME", 4008485, x.write(0, 8));
    }

    private static void promise15() {
        LoneWire x = new LoneWire();
        Check.due("0 bits", 0, x.read(0));
        Check.due("9 bits", LoneWire.NONE, x.read(9));
        Check.due("-1 bits", LoneWire.NONE, x.read(-1));
        Check.due("nobody", 255, x.read(8));
        Check.due("nobody", 31, x.read(5));
        x.attach(MEMORY, 0, 30, 0, false);
        x.reset();
        x.write(51, 8);
        Check.due("FAMILY", 35, x.read(8));
        Check.due("TELLS", 2, x.device(0, 3));
        for (int i = 0; i < 6; i++) {
            Check.due("SERIAL", 0, x.read(8));
        }
        Check.due("CHECKSUM", 168, x.read(8));
        Check.due("DEAF then", 0, x.device(0, 3));
        Check.due("nobody tells", 255, x.read(8));
        x.time(0, 3, 200);
        x.read(1);
        Check.due("as long as it samples", 200, x.trace(0, 1));
        x.time(0, 2, 300);
        Check.due("low behind the sample", 0, x.read(1));
        Check.due("as long as low", 300, x.trace(0, 1));
    }

    private static void promise16() {
        LoneWire x = new LoneWire();
        Check.due("can't be", LoneWire.NONE, x.idle(-1));
        Check.due("can't be", LoneWire.NONE, x.idle(100001));
        Check.due("0", 0, x.idle(0));
        Check.due("the most", 0, x.idle(100000));
        Check.due("TIME", 100000, x.count(2));
        Check.due("no SLOT", 0, x.count(3));
        x.attach(THERMOMETER, 0, 30, 0, true);
        x.attach(THERMOMETER, 1, 30, 0, true);
        x.attach(THERMOMETER, 2, 30, 0, false);
        Check.tellAll(x, 68);
        Check.due("two die", 2, x.idle(2000));
        Check.due("two died", 2, x.count(6));
        Check.dueDevice("DEAD", x, 0, 3, 3);
        Check.dueDevice("not FED", x, 2, 6, 1);
        Check.due("dead they die no more", 0, x.idle(499));
        Check.dueDevice("DEAD yet", x, 0, 3, 3);
        Check.due("alive", 0, x.idle(1));
        Check.dueDevice("DEAF", x, 0, 3, 0);
        x.idle(2000);
        Check.tellAll(x, 78, 75, 70, 31);
        x.idle(2000);
        Check.tellAll(x, 68);
        Check.dueDevice("FINE 0: 900 US", x, 1, 10, 0);
        Check.due("900 US are gone through", 0, x.idle(900));
        Check.dueDevice("it is through", x, 1, 6, 0);
        // Behind the part in which it runs out (805 US) the others of the waiting go on.
        x.idle(2000);
        Check.tellAll(x, 68);
        x.slot(60, 0, 95);
        Check.due("both run out, and are alive again", 2, x.idle(1700));
        Check.dueDevice("the others", x, 1, 4, 895);
        Check.dueDevice("alive, DEAF", x, 1, 3, 0);
        Check.dueDevice("it CONVERTS no more", x, 1, 6, 0);
    }

    private static void promise17() {
        LoneWire x = new LoneWire();
        Check.due("as it is", false, x.strong(false));
        Check.due("another", true, x.strong(true));
        Check.due("as it is", false, x.strong(true));
        x.attach(THERMOMETER, 0, 30, 0, true);
        Check.tellAll(x, 68);
        int charge = x.device(0, 4);
        x.idle(10);
        Check.dueDevice("STRONGLY in waiting", x, 0, 4, charge + 10);
        // LOW 7 US, 88 others; 95 times 3 less.
        x.write(1, 1);
        Check.dueDevice("not in a SLOT", x, 0, 4, charge + 10 - 7 + 88 - 285);
        Check.due("another", true, x.strong(false));
        x.idle(10);
        Check.dueDevice("not STRONGLY", x, 0, 4, charge - 194 - 20);
    }

    private static void edges() {
        LoneWire x = new LoneWire();
        x.attach(MEMORY, 0, 30, 0, false);
        x.attach(MEMORY, 1, 50, 0, false);
        x.reset();
        // The line is LOW yet at the end of the first: nobody sees the second's EDGE.
        x.slot(10, 0, 60);
        Check.due("both see it", 2, x.trace(0, 3));
        x.slot(60, 0, 60);
        x.slot(10, 0, 60);
        Check.due("nobody", 0, x.trace(0, 3));
        Check.due("two missed it", 2, x.count(5));
        x.slot(10, 0, 40);
        Check.due("both", 2, x.trace(0, 3));
        x.slot(10, 0, 60);
        Check.due("one is BUSY till 50", 1, x.trace(0, 3));
        Check.due("one missed it", 3, x.count(5));
        x.slot(10, 0, 30);
        x.slot(10, 0, 50);
        Check.due("BUSY no more at its CLOCK", 1, x.trace(0, 3));
    }

    private static void presenceBehindTheSlot() {
        LoneWire x = new LoneWire();
        x.attach(MEMORY, 0, 30, 0, false);
        x.slot(480, 480, 480);
        Check.dueDevice("it LISTENS", x, 0, 3, 1);
        // PRESENCE from 511 on till 631, LOW till 632.
        Check.due("not yet", 1, x.slot(1, 30, 30));
        Check.due("it sees no EDGE", 0, x.trace(0, 3));
        Check.due("LOW by the host", 2, x.trace(0, 5));
        Check.due("it holds", 0, x.slot(1, 120, 120));
        Check.due("LOW by both from its beginning on", 120, x.trace(0, 5));
        Check.due("at 630", 630, x.count(2));
        x.slot(1, 2, 2);
        Check.due("missed", 3, x.count(5));
        Check.due("not LOW at 632, and it is not BUSY", 1, x.slot(1, 2, 20));
        Check.due("seen at 632", 1, x.trace(0, 3));
    }

    private static void presenceCountsForOthers() {
        LoneWire x = new LoneWire();
        x.attach(MEMORY, 0, 60, 0, false);
        x.attach(SWITCH, 0, 20, 6, false);
        x.reset();
        x.write(60, 8);
        x.slot(1, 0, 2);
        x.slot(480, 0, 900);
        Check.due("the SWITCH is BUSY yet, the MEMORY is RESET", 1, x.trace(0, 4));
        Check.dueDevice("OVERDRIVE", x, 1, 2, 1);
        Check.dueDevice("the MEMORY LISTENS", x, 0, 3, 1);
        // Of 48 US alone the MEMORY would take a 1 at 60; but PRESENCE of the SWITCH is there from 55 on till 79.
        for (int command : new int[] {204, 170}) {
            Check.dueDevice("the MEMORY LISTENS", x, 0, 3, 1);
            for (int i = 0; i < 8; i++) {
                x.slot((command >> i & 1) == 1 ? 6 : 48, 0, 95);
            }
        }
        Check.dueDevice("it has taken 204, 170", x, 0, 3, 2);
    }

    private static void speeds() {
        LoneWire x = new LoneWire();
        x.attach(SWITCH, 0, 20, 6, false);
        x.attach(MEMORY, 1, 60, 0, false);
        x.reset();
        x.write(60, 8);
        Check.dueDevice("OVERDRIVE", x, 0, 2, 1);
        // A RESET for the SWITCH alone; PRESENCE from 48 + 1 + 6 on till 79.
        Check.due("before PRESENCE", 1, x.slot(48, 54, 100));
        Check.due("one RESET", 1, x.trace(0, 4));
        Check.due("LOW", 49 + 25, x.trace(0, 5));
        Check.dueDevice("SPEED as it was", x, 0, 2, 1);
        Check.due("PRESENCE", 0, x.slot(48, 79, 100));
        Check.due("and no more", 1, x.slot(48, 80, 100));
        Check.due("47 is none", 1, x.slot(47, 60, 100));
        Check.due("47 is none", 0, x.trace(0, 4));
        x.slot(479, 0, 600);
        Check.dueDevice("479: SPEED stays", x, 0, 2, 1);
        x.slot(480, 0, 900);
        Check.dueDevice("480: SPEED is 0", x, 0, 2, 0);
        Check.due("both", 2, x.trace(0, 4));
        // By SLOW: 480 + 1 + 20 .. 581; the other 541 .. 781.
        Check.due("LOW", 481 + 281, x.trace(0, 5));
    }

    private static void chargeInParts() {
        LoneWire x = new LoneWire();
        x.attach(MEMORY, 0, 30, 0, true);
        x.slot(100, 0, 300);
        Check.dueDevice("LOW first, then no more than 2000", x, 0, 4, 2000);
        x.slot(300, 0, 301);
        Check.dueDevice("all LOW", x, 0, 4, 1699);
        x.slot(400, 0, 1000);
        Check.dueDevice("401 less, 599 more", x, 0, 4, 1897);
        LoneWire y = new LoneWire();
        y.attach(MEMORY, 0, 30, 0, true);
        y.slot(400, 0, 400);
        y.idle(0);
        Check.dueDevice("400 less", y, 0, 4, 1600);
        y.slot(400, 0, 400);
        y.slot(400, 0, 400);
        y.slot(400, 0, 400);
        Check.dueDevice("1600 less", y, 0, 4, 400);
        y.slot(400, 0, 400);
        Check.dueDevice("0 is not below 0", y, 0, 4, 0);
        Check.dueDevice("it lives", y, 0, 3, 0);
        y.idle(1);
        Check.dueDevice("RISE goes on in waiting", y, 0, 3, 3);
        Check.due("one died", 1, y.count(6));
        y.idle(500);
        Check.dueDevice("alive at 500", y, 0, 3, 0);
        y.reset();
        Check.due("then it sees EDGES", 1, y.trace(0, 3));
    }

    /** CONVERTING goes on from the SLOT's beginning, LOW or not; behind it LOW costs 1 only. */
    private static void conversionEndsInLow() {
        LoneWire x = new LoneWire();
        x.attach(THERMOMETER, 0, 15, 0, true);
        Check.tellAll(x, 78, 75, 70, 31);
        x.idle(2000);
        Check.tellAll(x, 68);
        x.strong(true);
        x.idle(850);
        x.strong(false);
        Check.dueDevice("full", x, 0, 4, 2000);
        x.slot(100, 0, 120);
        // 50 US of CONVERTING, all of them LOW: 101 and 150 less, then 19 more.
        Check.dueDevice("three parts", x, 0, 4, 2000 - 101 - 150 + 19);
        Check.dueDevice("through", x, 0, 6, 0);
        x.idle(2000);
        Check.tellAll(x, 68);
        x.strong(true);
        x.idle(800);
        x.strong(false);
        int charge = x.device(0, 4);
        // 6 and RISE LOW, 93 others CONVERTING, 100 others.
        x.slot(6, 0, 200);
        Check.dueDevice("three parts", x, 0, 4, charge - 7 - 21 - 2 * 93 + 100);
    }

    private static void deadHoldsNothing() {
        LoneWire x = new LoneWire();
        x.attach(SWITCH, 0, 30, 0, true);
        x.slot(470, 0, 470);
        for (int i = 0; i < 3; i++) {
            x.slot(400, 0, 400);
        }
        x.idle(5);
        Check.dueDevice("CHARGE", x, 0, 4, 2000 - 1670 - 1 + 4);
        // PRESENCE would go on from 511 till 631.
        Check.due("its PRESENCE", 0, x.slot(480, 515, 520));
        Check.dueDevice("DEAD", x, 0, 3, 3);
        Check.due("it holds nothing any more", 1, x.slot(1, 5, 5));
        Check.due("not LOW but by the host", 2, x.trace(0, 5));
    }

    private static void deadInTheFirstPart() {
        LoneWire x = new LoneWire();
        x.attach(THERMOMETER, 0, 15, 0, true);
        Check.tellAll(x, 68);
        x.idle((x.device(0, 4) - 200) / 2);
        Check.due("CHARGE 200 or 201", 100, x.lasts(0));
        x.slot(100, 0, 120);
        Check.due("it runs out by 101 LOW US alone", 1, x.count(6));
        Check.dueDevice("all others are without CONVERTING", x, 0, 4, 19);
    }

    private static void deadInReset() {
        LoneWire x = new LoneWire();
        x.attach(SWITCH, 3, 30, 4, true);
        x.attach(MEMORY, 3, 60, 0, false);
        Check.tellAll(x, 90, 3, 252);
        Check.dueDevice("OUTPUTS", x, 0, 8, 3);
        Check.dueDevice("TELLS", x, 0, 3, 2);
        x.press(0, 0, true);
        x.idle(2000);
        x.slot(1300, 0, 1300);
        // PRESENCES: 31 .. 151 and 61 .. 301 behind letting go, RISE 1: 272 LOW with the host's own.
        x.idle(400);
        Check.dueDevice("CHARGE", x, 0, 4, 700 - 272 + 128);
        int resets = x.count(4);
        Check.due("its PRESENCE goes on in the SLOT", 0, x.slot(600, 640, 1000));
        Check.due("it came to be DEAD", 1, x.count(6));
        Check.due("who has been DEAD is not RESET", resets + 1, x.count(4));
        Check.due("both saw the EDGE", 2, x.trace(0, 3));
        Check.due("for both it was a RESET", 2, x.trace(0, 4));
        Check.dueDevice("DEAD", x, 0, 3, 3);
        Check.dueDevice("no ALARM", x, 0, 5, 0);
        Check.dueDevice("OUTPUTS as at first", x, 0, 8, 0);
        Check.dueDevice("PINS stay", x, 0, 7, 1);
        Check.dueDevice("the others of the SLOT", x, 0, 4, 1000 - 601 - 271);
        Check.due("a PIN changes", true, x.press(0, 1, true));
        Check.dueDevice("no ALARM while DEAD", x, 0, 5, 0);
        x.idle(400);
        Check.dueDevice("alive, DEAF", x, 0, 3, 0);
        int missed = x.count(5);
        x.slot(6, 0, 95);
        Check.due("it sees EDGES again", missed, x.count(5));
    }
}
