/** Boundary cases of promises 18 to 27, and of the Terms' sentences on a PASS. */
public final class BoundsAddressesTest {
    private static final int THERMOMETER = 40;
    private static final int SWITCH = 58;
    private static final int MEMORY = 35;
    private static final int COUNTER = 29;
    private static final int NONE = LoneWire.NONE;
    private static final int LEAST = Integer.MIN_VALUE;
    private static final int MOST = Integer.MAX_VALUE;

    public static void main(String[] args) {
        passNobody();
        passNobodyAnyMore();
        passNobodyInTheMidst();
        passWrongChecksum();
        passNobodyMore();
        passForksByLast();
        passOfEight();
        passOfDead();
        anewAfterAll();
        targetBounds();
        targetLast63();
        leaveAmongEight();
        leaveNone();
        foundBytes();
        forksAsBits();
        lastBounds();
        rollNobody();
        rollInPlace();
        rollSixteen();
        knownBounds();
        missingNothingKnown();
        missingAtEachBit();
        missingSixteen();
        Check.end();
    }

    private static void dueAnew(String what, LoneWire x) {
        Check.due(what + ": no LAST", NONE, x.last());
        Check.due(what + ": no FORKS", 0, x.forks());
        for (int k = 0; k < 8; k++) {
            Check.due(what + ": nothing FOUND", 0, x.found(k));
        }
    }

    private static LoneWire memories(int... serials) {
        LoneWire x = new LoneWire();
        for (int serial : serials) {
            x.attach(MEMORY, serial, 30, 0, false);
        }
        return x;
    }

    /** The host samples so early that it reads 0, 0 at each bit. */
    private static LoneWire allForks() {
        LoneWire x = memories(1);
        x.time(0, 3, 6);
        return x;
    }

    // ---- promise 18

    /** "RESET (nobody's PRESENCE: -2, all begins anew)". */
    private static void passNobody() {
        LoneWire x = new LoneWire();
        for (int i = 0; i < 3; i++) {
            Check.due("nobody there", -2, x.pass(i == 1));
            Check.due("RESET alone", i + 1, x.count(3));
            dueAnew("nobody there", x);
        }
        x.target(35);
        Check.due("behind target()", -2, x.pass(false));
        dueAnew("behind target()", x);
        LoneWire y = memories(1, 2);
        y.pass(false);
        Check.due("LAST", 8, y.last());
        y.detach(0);
        y.detach(1);
        Check.due("both have gone", -2, y.pass(false));
        dueAnew("both have gone", y);
        y.attach(MEMORY, 2, 30, 0, false);
        Check.due("one is FOUND from anew on", 1, y.pass(false));
        Check.due("it", 2, y.found(1));
    }

    /** "1, 1: nobody is there any more (-3, all begins anew)": at the first bit. */
    private static void passNobodyAnyMore() {
        LoneWire x = memories(1, 2);
        x.pass(false);
        int slots = x.count(3);
        Check.due("none calls an ALARM", -3, x.pass(true));
        Check.due("RESET, 236, two bits", 11, x.count(3) - slots);
        dueAnew("none calls an ALARM", x);
        Check.due("from anew on", 1, x.pass(false));
        Check.due("the first", 2, x.found(1));
    }

    /** In the midst: it is DEAD behind some bits. */
    private static void passNobodyInTheMidst() {
        LoneWire x = new LoneWire();
        x.attach(MEMORY, 0, 60, 0, true);
        Check.drain(x, 900);
        x.idle(1);
        int slots = x.count(3);
        Check.due("it dies on the way", -3, x.pass(false));
        Check.due("more than the first bit", true, x.count(3) - slots > 14);
        Check.due("less than all", true, x.count(3) - slots < 201);
        Check.due("1, 1: nothing is WRITTEN behind that", 2, (x.count(3) - slots - 9) % 3);
        Check.due("it died", 1, x.count(6));
        dueAnew("it died", x);
    }

    /** "Behind all: the CHECKSUM is wrong: -4, all begins anew; else the ADDRESS is FOUND." */
    private static void passWrongChecksum() {
        LoneWire x = allForks();
        Check.due("all is 0, and so is CHECKSUM", 1, x.pass(false));
        Check.due("64 FORKS", -1L, x.forks());
        Check.due("at LAST 1: CHECKSUM is 128, not 0", -4, x.pass(false));
        dueAnew("-4", x);
        int right = 0;
        for (int family = 0; family < 256; family++) {
            LoneWire y = allForks();
            y.target(family);
            // Bits as in that FAMILY, and 1 at 63: CHECKSUM is 128.
            boolean is = Check.checksum(family, 56) == 128;
            Check.due("TARGET " + family, is ? 1 : -4, y.pass(false));
            if (is) {
                right++;
                Check.due("FAMILY", family, y.found(0));
                Check.due("CHECKSUM", 128, y.found(7));
            } else {
                dueAnew("TARGET " + family, y);
            }
        }
        Check.due("one FAMILY has it", 1, right);
    }

    /** "If there is no LAST behind a PASS, the next one is 0: nobody more, and all begins anew (at once ..)". */
    private static void passNobodyMore() {
        LoneWire x = memories(1, 2);
        Check.due("the first", 1, x.pass(false));
        Check.due("there is LAST", 8, x.last());
        Check.due("the second", 1, x.pass(false));
        Check.due("there is none", NONE, x.last());
        Check.due("FOUND yet", 1, x.found(1));
        Check.due("FORKS yet", 256, x.forks());
        int time = x.count(2);
        Check.due("nobody more", 0, x.pass(true));
        Check.due("at once", time, x.count(2));
        dueAnew("nobody more", x);
        Check.due("the first again", 1, x.pass(false));
        Check.due("the first again", 2, x.found(1));
    }

    /** "0, 0 a FORK: below LAST as in the latest ADDRESS found, at LAST 1, above 0." */
    private static void passForksByLast() {
        // SERIALS in bits 8 .. 10: 0, 4, 2, 6, 1, 5, 3, 7 by branches.
        LoneWire x = memories(0, 1, 2, 3, 4, 5, 6, 7);
        int[] serials = {0, 4, 2, 6, 1, 5, 3, 7};
        int[] lasts = {10, 9, 10, 8, 10, 9, 10, NONE};
        for (int i = 0; i < 8; i++) {
            Check.due("one is FOUND", 1, x.pass(false));
            Check.due("SERIAL", serials[i], x.found(1));
            Check.due("LAST", lasts[i], x.last());
            Check.due("FORKS", 7L << 8, x.forks());
        }
        Check.due("nobody more", 0, x.pass(false));
    }

    /** All 8 that can be there, of all KINDS, one of them with the greatest SERIAL. */
    private static void passOfEight() {
        LoneWire x = new LoneWire();
        int[] families = {THERMOMETER, SWITCH, MEMORY, COUNTER};
        for (int i = 0; i < 8; i++) {
            x.attach(families[i % 4], i < 4 ? i : MOST - i, 15 + 6 * i, 0, false);
        }
        for (int i = 0; i < 8; i++) {
            Check.due("one is FOUND", 1, x.pass(false));
            int d = x.branch(i);
            Check.due("FAMILY by branches", x.device(d, 0), x.found(0));
            Check.due("SERIAL by branches", x.device(d, 1), serialFound(x));
            Check.due("CHECKSUM by branches", x.device(d, 11), x.found(7));
        }
        Check.due("nobody more", 0, x.pass(false));
        Check.due("no ninth by branches", NONE, x.branch(8));
    }

    private static int serialFound(LoneWire x) {
        int serial = 0;
        for (int k = 0; k < 4; k++) {
            serial |= x.found(1 + k) << 8 * k;
        }
        Check.due("the upper bits", 0, x.found(5) | x.found(6));
        return serial;
    }

    private static void passOfDead() {
        LoneWire x = new LoneWire();
        x.attach(MEMORY, 0, 30, 0, true);
        Check.drain(x, 2001);
        Check.due("DEAD: nobody's PRESENCE", -2, x.pass(false));
        x.idle(2000);
        Check.due("alive", 1, x.pass(false));
    }

    // ---- promise 19

    /** "All begins anew (no LAST, nothing FOUND, no FORKS)." */
    private static void anewAfterAll() {
        LoneWire x = memories(1);
        Check.due("nothing yet", 0, x.anew());
        dueAnew("nothing yet", x);
        x.pass(false);
        x.anew();
        dueAnew("behind the only one", x);
        Check.due("a PASS, not 0", 1, x.pass(false));
        x.target(200);
        x.anew();
        dueAnew("behind target()", x);
        x.leave();
        x.anew();
        Check.due("behind leave(): a PASS, not 0", 1, x.pass(false));
        int known = x.roll(false);
        x.anew();
        Check.due("KNOWN stay", known, x.count(7));
    }

    // ---- promise 20

    /** "To TARGET a FAMILY (0 .. 255): true; false: it can't be." */
    private static void targetBounds() {
        LoneWire x = memories(1, 2);
        x.pass(false);
        for (int family : new int[] {LEAST, -1, 256, 257, MOST}) {
            Check.due("target(" + family + ")", false, x.target(family));
            Check.due("LAST as it was", 8, x.last());
            Check.due("FOUND as it was", MEMORY, x.found(0));
        }
        for (int family : new int[] {0, 1, 254, 255}) {
            Check.due("target(" + family + ")", true, x.target(family));
            Check.due("LAST", 63, x.last());
            Check.due("that FAMILY's", family, x.found(0));
            for (int k = 1; k < 8; k++) {
                Check.due("all else 0", 0, x.found(k));
            }
            Check.due("FORKS of the latest PASS", 256, x.forks());
        }
    }

    /** "LAST is 63": it is so even where the next PASS would be 0. */
    private static void targetLast63() {
        LoneWire x = new LoneWire();
        x.attach(THERMOMETER, 5, 30, 0, false);
        x.attach(SWITCH, 5, 30, 0, false);
        x.pass(false);
        x.pass(false);
        Check.due("no LAST", NONE, x.last());
        x.target(THERMOMETER);
        Check.due("a PASS, not 0", 1, x.pass(false));
        Check.due("the THERMOMETER", THERMOMETER, x.found(0));
        x.target(SWITCH);
        x.pass(false);
        Check.due("the SWITCH", SWITCH, x.found(0));
        Check.due("LAST", NONE, x.last());
        x.target(0);
        x.pass(false);
        Check.due("none such: 0 at each FORK", THERMOMETER, x.found(0));
        x.target(255);
        x.pass(false);
        Check.due("none such: 1 at each FORK", SWITCH, x.found(0));
    }

    // ---- promise 21

    /** "LAST is the last FORK among bits 0 .. 7 at which 0 was taken in the latest PASS." */
    private static void leaveAmongEight() {
        LoneWire x = allForks();
        x.pass(false);
        Check.due("0 was taken at each", 7, x.leave());
        Check.due("LAST then", 7, x.last());
        LoneWire y = memories(0, 1);
        y.pass(false);
        Check.due("a FORK at 8", 8, y.last());
        Check.due("is none among them", NONE, y.leave());
        LoneWire z = new LoneWire();
        // 35 and 29 part at bit 1; 40 and 58 at bit 1; both from both at bit 0.
        z.attach(MEMORY, 0, 30, 0, false);
        z.attach(THERMOMETER, 0, 30, 0, false);
        z.pass(false);
        Check.due("a FORK at 0", 0, z.leave());
        z.pass(false);
        Check.due("1 was taken there", NONE, z.leave());
        z.target(THERMOMETER);
        Check.due("it is of the latest PASS, not of what is TARGETED", NONE, z.leave());
        z.anew();
        z.pass(false);
        z.target(MEMORY);
        Check.due("it is of the latest PASS, not of what is TARGETED", 0, z.leave());
    }

    /** "NONE: none (the next PASS is 0, whatever there was)". */
    private static void leaveNone() {
        LoneWire x = memories(0, 1);
        Check.due("no PASS yet", NONE, x.leave());
        int time = x.count(2);
        Check.due("0", 0, x.pass(false));
        Check.due("at once", time, x.count(2));
        x.pass(false);
        x.leave();
        Check.due("there would be more", 0, x.pass(false));
        dueAnew("0", x);
        Check.due("and from anew on", 1, x.pass(false));
        x.leave();
        x.leave();
        Check.due("twice is once", 0, x.pass(false));
        Check.due("and from anew on", 1, x.pass(false));
    }

    // ---- promises 22 to 24

    /** "Byte k (0 .. 7) of the ADDRESS that was FOUND last (0 without one); NONE for others." */
    private static void foundBytes() {
        LoneWire x = memories(MOST);
        int[] due = {MEMORY, 255, 255, 255, 127, 0, 0, x.device(0, 11)};
        for (int found = 0; found < 2; found++) {
            for (int k : new int[] {LEAST, -1, 8, 9, MOST}) {
                Check.due("found(" + k + ")", NONE, x.found(k));
            }
            for (int k = 0; k < 8; k++) {
                Check.due("found(" + k + ")", found == 0 ? 0 : due[k], x.found(k));
            }
            x.pass(false);
        }
    }

    /** "FORKS of the latest PASS as bits": 0 .. 63. */
    private static void forksAsBits() {
        LoneWire x = allForks();
        x.pass(false);
        Check.due("all of them", -1L, x.forks());
        LoneWire y = memories(0, 0x40000000);
        y.pass(false);
        Check.due("the highest of a SERIAL", 1L << 38, y.forks());
        LoneWire z = new LoneWire();
        z.attach(MEMORY, 0, 30, 0, false);
        z.attach(THERMOMETER, 0, 30, 0, false);
        z.pass(false);
        Check.due("the first of all", 1, z.forks());
        z.detach(0);
        z.pass(false);
        Check.due("of the latest: none", 0, z.forks());
    }

    /** "LAST; NONE." */
    private static void lastBounds() {
        LoneWire x = allForks();
        Check.due("none yet", NONE, x.last());
        x.pass(false);
        Check.due("the greatest", 63, x.last());
        LoneWire z = new LoneWire();
        z.attach(MEMORY, 0, 30, 0, false);
        z.attach(THERMOMETER, 0, 30, 0, false);
        z.pass(false);
        Check.due("the least", 0, z.last());
        z.pass(false);
        Check.due("none: 1 was taken", NONE, z.last());
        Check.due("though there was a FORK", 1, z.forks());
    }

    // ---- promise 25

    private static void rollNobody() {
        LoneWire x = new LoneWire();
        Check.due("nobody there", 0, x.roll(false));
        Check.due("one RESET", 1, x.count(3));
        Check.due("none KNOWN", 0, x.count(7));
        x.attach(MEMORY, 0, 30, 0, false);
        Check.due("nobody calls an ALARM", 0, x.roll(true));
        Check.due("RESET, 236, two bits", 1 + 11, x.count(3));
        x.leave();
        Check.due("from anew on", 1, x.roll(false));
        x.target(40);
        Check.due("from anew on", 1, x.roll(false));
    }

    /** "how many were FOUND, which are KNOWN then (in place of those before)". */
    private static void rollInPlace() {
        LoneWire x = memories(0, 1, 2, 3, 4, 5, 6, 7);
        Check.due("8", 8, x.roll(false));
        Check.due("the last", 7, x.known(7, 1));
        for (int d = 1; d < 8; d++) {
            x.detach(d);
        }
        Check.due("KNOWN till then", 8, x.count(7));
        Check.due("1", 1, x.roll(false));
        Check.due("KNOWN", 1, x.count(7));
        Check.due("the first", 0, x.known(0, 1));
        Check.due("no second", NONE, x.known(1, 1));
        Check.due("no second", NONE, x.measured(1));
        x.detach(0);
        Check.due("0", 0, x.roll(false));
        Check.due("none KNOWN", NONE, x.known(0, 0));
        Check.due("none KNOWN", 0, x.count(7));
        Check.due("none is MISSING", 0, x.missing());
    }

    /** The MEMORY runs out and comes back, so the host turns round and round. */
    private static LoneWire sixteen() {
        LoneWire x = new LoneWire();
        x.attach(THERMOMETER, 0, 38, 0, false);
        x.attach(MEMORY, 1, 58, 0, true);
        x.attach(THERMOMETER, 2, 57, 0, false);
        Check.due("16 at most", 16, x.roll(false));
        return x;
    }

    /** "(16 at most)". */
    private static void rollSixteen() {
        LoneWire x = sixteen();
        Check.due("KNOWN", 16, x.count(7));
        Check.due("16 PASSES", 16 * 201, x.count(3));
        Check.due("behind the 16th all is as it found it", THERMOMETER, x.found(0));
        Check.due("there would be one more", 1, x.pass(false));
    }

    // ---- promise 26

    /** "Byte k of the i-th KNOWN ADDRESS; NONE when there is none such." */
    private static void knownBounds() {
        LoneWire x = sixteen();
        for (int i : new int[] {0, 15}) {
            Check.due("FAMILY of " + i, THERMOMETER, x.known(i, 0));
            Check.due("CHECKSUM of " + i, x.device(i == 0 ? 0 : 2, 11), x.known(i, 7));
            for (int k : new int[] {LEAST, -1, 8, MOST}) {
                Check.due("known(" + i + ", " + k + ")", NONE, x.known(i, k));
            }
        }
        for (int i : new int[] {LEAST, -1, 16, 17, MOST}) {
            Check.due("known(" + i + ", 0)", NONE, x.known(i, 0));
            Check.due("measured(" + i + ")", NONE, x.measured(i));
        }
        LoneWire y = memories(7);
        Check.due("none KNOWN", NONE, y.known(0, 0));
        y.roll(false);
        Check.due("one KNOWN", 7, y.known(0, 1));
        Check.due("no second", NONE, y.known(1, 1));
    }

    // ---- promise 27

    private static void missingNothingKnown() {
        LoneWire x = memories(1);
        Check.due("none KNOWN", 0, x.missing());
        Check.due("nothing is done", 0, x.count(3));
        x.roll(false);
        int slots = x.count(3);
        Check.due("it is there", 0, x.missing());
        Check.due("all 64 bits", 201, x.count(3) - slots);
    }

    /** "if at some bit nobody has it (a 0: that is READ as 1; a 1: its complement is)". */
    private static void missingAtEachBit() {
        for (int bit = 0; bit < 31; bit++) {
            for (int serial : new int[] {0, MOST}) {
                LoneWire x = memories(serial);
                x.roll(false);
                x.detach(0);
                x.attach(MEMORY, serial ^ 1 << bit, 30, 0, false);
                int slots = x.count(3);
                Check.due("another at " + (8 + bit), 1, x.missing());
                Check.due("nothing is WRITTEN behind that", 9 + 3 * (8 + bit) + 2, x.count(3) - slots);
            }
        }
        LoneWire x = memories(0, 1);
        x.roll(false);
        x.detach(0);
        Check.due("the first of two", 1, x.missing());
        x.attach(MEMORY, 0, 30, 0, false);
        x.detach(1);
        Check.due("the second of two", 2, x.missing());
        x.detach(0);
        int slots = x.count(3);
        Check.due("without PRESENCE", 3, x.missing());
        Check.due("RESET alone", 2, x.count(3) - slots);
    }

    private static void missingSixteen() {
        LoneWire x = sixteen();
        x.detach(1);
        Check.due("none", 0, x.missing());
        x.detach(2);
        Check.due("each second one, the 16th the highest bit", 0xaaaa, x.missing());
        x.detach(0);
        Check.due("all", 0xffff, x.missing());
    }
}
