/** Promises 18 to 27. */
public final class AddressesTest {
    private static final int THERMOMETER = 40;
    private static final int SWITCH = 58;
    private static final int MEMORY = 35;
    private static final int COUNTER = 29;

    public static void main(String[] args) {
        promise18();
        promise18Wrong();
        promise18Anew();
        promise18Alarm();
        promise19();
        promise20();
        promise21();
        promise22And23And24();
        promise25();
        promise25Many();
        promise25Sixteen();
        promise26();
        promise27();
        Check.end();
    }

    /** 35 is 11000100, 29 is 10111000, 40 is 00010100, 58 is 01011100, the lowest first. */
    private static LoneWire four() {
        LoneWire x = new LoneWire();
        x.attach(MEMORY, 1, 15, 0, false);
        x.attach(COUNTER, 2, 30, 0, false);
        x.attach(THERMOMETER, 3, 45, 0, false);
        x.attach(SWITCH, 4, 60, 0, false);
        return x;
    }

    private static void promise18() {
        LoneWire x = four();
        int[] families = {40, 58, 29, 35};
        int[] serials = {3, 4, 2, 1};
        for (int i = 0; i < 4; i++) {
            Check.due("one is FOUND", 1, x.pass(false));
            Check.due("FAMILY", families[i], x.found(0));
            Check.due("SERIAL", serials[i], x.found(1));
        }
        int slots = x.count(3);
        Check.due("nobody more", 0, x.pass(false));
        Check.due("at once", slots, x.count(3));
        Check.due("nothing FOUND", 0, x.found(0));
        Check.due("and anew", 1, x.pass(false));
        Check.due("the first again", 40, x.found(0));
    }

    private static void promise18Wrong() {
        LoneWire x = new LoneWire();
        Check.due("nobody's PRESENCE", -2, x.pass(false));
        Check.due("one SLOT", 1, x.count(3));
        Check.due("and again", -2, x.pass(false));
        x.attach(MEMORY, 1, 15, 0, false);
        Check.due("one is FOUND", 1, x.pass(false));
        Check.due("no LAST: 0, whatever is there", 0, x.pass(true));
        Check.due("nobody calls an ALARM", -3, x.pass(true));
        Check.due("1, 1, a whole PASS, none, RESET and 8 and 2 bits", 1 + 1 + 201 + 11, x.count(3));
        Check.due("all begins anew", 1, x.pass(false));
        x.anew();
        x.attach(MEMORY, 2, 15, 0, false);
        x.time(0, 3, 24);
        Check.due("0 is READ as 1", -3, x.pass(false));
        x.time(0, 3, 6);
        Check.due("all is READ as 0", 1, x.pass(false));
        Check.due("64 FORKS", -1L, x.forks());
        Check.due("the last", 63, x.last());
        Check.due("at LAST 1: a wrong CHECKSUM", -4, x.pass(false));
        Check.due("all begins anew", LoneWire.NONE, x.last());
        Check.due("all begins anew", 0, x.forks());
    }

    /** Whatever goes wrong in the midst of a search, the next PASS is a first one. */
    private static void promise18Anew() {
        LoneWire x = four();
        x.pass(false);
        Check.due("-3", -3, x.pass(true));
        dueAnew(x);
        x.pass(false);
        Check.due("the first", 40, x.found(0));
        for (int d = 0; d < 4; d++) {
            x.detach(d);
        }
        Check.due("-2", -2, x.pass(false));
        dueAnew(x);
    }

    private static void dueAnew(LoneWire x) {
        Check.due("no LAST", LoneWire.NONE, x.last());
        Check.due("no FORKS", 0, x.forks());
        Check.due("nothing FOUND", 0, x.found(0));
    }

    private static void promise18Alarm() {
        LoneWire x = four();
        x.press(3, 0, true);
        Check.due("one calls an ALARM", 1, x.pass(true));
        Check.due("the SWITCH", 58, x.found(0));
        Check.due("no FORKS", 0, x.forks());
        Check.due("nobody more", 0, x.pass(true));
        x.detach(3);
        Check.due("nobody any more", -3, x.pass(true));
    }

    private static void promise19() {
        LoneWire x = four();
        x.pass(false);
        x.pass(false);
        Check.due("anew", 0, x.anew());
        Check.due("no LAST", LoneWire.NONE, x.last());
        Check.due("no FORKS", 0, x.forks());
        Check.due("nothing FOUND", 0, x.found(0));
        x.pass(false);
        Check.due("the first", 40, x.found(0));
        x.anew();
        Check.due("no FORKS to LEAVE by", LoneWire.NONE, x.leave());
        x.anew();
        Check.due("a PASS is made", 1, x.pass(false));
    }

    private static void promise20() {
        LoneWire x = four();
        Check.due("can't be", false, x.target(-1));
        Check.due("can't be", false, x.target(256));
        Check.due("can be", true, x.target(255));
        Check.due("that FAMILY's", 255, x.found(0));
        Check.due("can be", true, x.target(0));
        Check.due("LAST", 63, x.last());
        x.target(29);
        Check.due("FOUND", 1, x.pass(false));
        Check.due("the COUNTER", 29, x.found(0));
        // FORKS at 0 (1 taken), 1 (0 taken).
        Check.due("FORKS", 3, x.forks());
        Check.due("LAST", 1, x.last());
        x.attach(SWITCH, 0, 30, 0, false);
        x.target(58);
        x.pass(false);
        Check.due("the first SWITCH", 0, x.found(1));
        x.pass(false);
        Check.due("the next SWITCH", 4, x.found(1));
        x.leave();
        x.target(58);
        Check.due("LAST in place of none: a PASS is made", 1, x.pass(false));
        x.anew();
        x.leave();
        x.target(58);
        Check.due("LAST in place of none: a PASS is made", 1, x.pass(false));
        x.target(60);
        Check.due("there is none such", 1, x.pass(false));
        Check.due("another FAMILY", true, x.found(0) != 60);
    }

    private static void promise21() {
        LoneWire x = four();
        Check.due("none", LoneWire.NONE, x.leave());
        Check.due("the next PASS is 0", 0, x.pass(false));
        x.attach(THERMOMETER, 2, 30, 0, false);
        x.pass(false);
        Check.due("the first THERMOMETER", 2, x.found(1));
        Check.due("LAST in the SERIAL", 8, x.last());
        Check.due("to LEAVE it", 1, x.leave());
        Check.due("LAST then", 1, x.last());
        x.pass(false);
        Check.due("the SWITCH", 58, x.found(0));
        Check.due("to LEAVE it", 0, x.leave());
        x.pass(false);
        Check.due("the COUNTER", 29, x.found(0));
        Check.due("to LEAVE it", 1, x.leave());
        x.pass(false);
        Check.due("the MEMORY", 35, x.found(0));
        Check.due("none", LoneWire.NONE, x.leave());
        Check.due("FOUND stays", 35, x.found(0));
        Check.due("nobody more", 0, x.pass(false));
    }

    private static void promise22And23And24() {
        LoneWire x = new LoneWire();
        x.attach(THERMOMETER, 0x7a5b3c1d, 30, 0, false);
        x.attach(THERMOMETER, 0x6a5b3c1d, 30, 0, false);
        x.pass(false);
        int[] due = {40, 0x1d, 0x3c, 0x5b, 0x6a, 0, 0, x.device(1, 11)};
        for (int k = 0; k < 8; k++) {
            Check.due("byte " + k, due[k], x.found(k));
        }
        Check.due("others", LoneWire.NONE, x.found(8));
        Check.due("others", LoneWire.NONE, x.found(-1));
        Check.due("FORKS as bits", 1L << 36, x.forks());
        Check.due("LAST", 36, x.last());
        x.pass(false);
        Check.due("the other", 0x7a, x.found(4));
        Check.due("FORKS", 1L << 36, x.forks());
        Check.due("none", LoneWire.NONE, x.last());
    }

    private static void promise25() {
        LoneWire x = four();
        x.pass(false);
        Check.due("from anew on", 4, x.roll(false));
        Check.due("KNOWN", 4, x.count(7));
        Check.due("behind it all is anew", 0, x.found(0));
        x.press(3, 1, true);
        Check.due("in place of those before", 1, x.roll(true));
        Check.due("the SWITCH", 58, x.known(0, 0));
        Check.due("KNOWN", 1, x.count(7));
        x.detach(3);
        Check.due("nobody", 0, x.roll(true));
        Check.due("KNOWN", 0, x.count(7));
    }

    private static void promise25Many() {
        LoneWire x = new LoneWire();
        for (int i = 0; i < 8; i++) {
            x.attach(MEMORY, i, 15, 0, false);
        }
        Check.due("eight", 8, x.roll(false));
        for (int i = 0; i < 8; i++) {
            Check.due("by branches", x.device(x.branch(i), 1), x.known(i, 1));
        }
        x.time(0, 3, 6);
        Check.due("0, then a wrong CHECKSUM", 1, x.roll(false));
        Check.due("64 zeros", 0, x.known(0, 0));
    }

    /** The MEMORY runs out and comes back: the FORK at bit 0 is there and is not, and the host turns round and round. */
    private static void promise25Sixteen() {
        LoneWire x = new LoneWire();
        x.attach(THERMOMETER, 0, 38, 0, false);
        x.attach(MEMORY, 1, 58, 0, true);
        x.attach(THERMOMETER, 2, 57, 0, false);
        Check.due("16 at most", 16, x.roll(false));
        Check.due("KNOWN", 16, x.count(7));
        Check.due("the 16th", 2, x.known(15, 1));
        Check.due("no 17th", LoneWire.NONE, x.known(16, 0));
        Check.due("no 17th", LoneWire.NONE, x.measured(16));
        Check.due("PASSES", 16 * 201, x.count(3));
        Check.due("there would be more", 1, x.pass(false));
        x.detach(2);
        Check.due("each second one", 0xaaaa, x.missing());
        x.measureAll(7200);
        Check.due("the 15th", 320, x.measured(14));
        Check.due("the 16th", -100004, x.measured(15));
    }

    private static void promise26() {
        LoneWire x = four();
        x.roll(false);
        int[] families = {40, 58, 29, 35};
        int[] devices = {2, 3, 1, 0};
        for (int i = 0; i < 4; i++) {
            Check.due("FAMILY", families[i], x.known(i, 0));
            Check.due("SERIAL", x.device(devices[i], 1), x.known(i, 1));
            Check.due("CHECKSUM", x.device(devices[i], 11), x.known(i, 7));
            Check.due("no such byte", LoneWire.NONE, x.known(i, 8));
            Check.due("no such byte", LoneWire.NONE, x.known(i, -1));
        }
        Check.due("none such", LoneWire.NONE, x.known(4, 0));
        Check.due("none such", LoneWire.NONE, x.known(-1, 0));
    }

    private static void promise27() {
        LoneWire x = four();
        Check.due("none KNOWN", 0, x.missing());
        x.roll(false);
        int before = x.count(3);
        Check.due("all there", 0, x.missing());
        Check.due("RESET, 8 bits, 64 times 3", 4 * (1 + 8 + 192), x.count(3) - before);
        x.detach(3);
        x.detach(1);
        x.attach(COUNTER, 3, 30, 0, false);
        Check.due("the SWITCH and the COUNTER", 2 + 4, x.missing());
        x.attach(SWITCH, 4, 20, 0, false);
        Check.due("the SWITCH is there again", 4, x.missing());
        for (int d = 0; d < 4; d++) {
            x.detach(d);
        }
        before = x.count(3);
        Check.due("without PRESENCE", 15, x.missing());
        Check.due("nothing is WRITTEN", 4, x.count(3) - before);
        x.attach(SWITCH, 4, 20, 0, false);
        before = x.count(3);
        Check.due("the SWITCH alone", 15 - 2, x.missing());
        // 40 parts from 58 at bit 1, 29 and 35 at bit 0.
        Check.due("nothing is WRITTEN behind that", 9 + 3 + 2 + 201 + 11 + 11, x.count(3) - before);
    }
}
