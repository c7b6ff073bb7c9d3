/** Boundary cases of the Terms, II: COMMANDS behind RESET and those of the four KINDS. */
public final class BoundsKindsTest {
    private static final int THERMOMETER = 40;
    private static final int SWITCH = 58;
    private static final int MEMORY = 35;
    private static final int COUNTER = 29;
    private static final int[] FAMILIES = {THERMOMETER, SWITCH, MEMORY, COUNTER};

    public static void main(String[] args) {
        commandHasEightBits();
        ownAddressHas64Bits();
        matchAtEachBit();
        searchAtEachBit();
        searchBehindAll();
        alarmSearch();
        overdriveWithoutFast();
        overdriveMatchAtEachBit();
        mineFromTill();
        mineIsLostByDying();
        otherCommands();
        otherKindCommands();
        commandsLeaveTheRest();
        conversionTimes();
        conversionBeginsAnew();
        conversionFineThen();
        conversionHidesTillThrough();
        conversionTells();
        conversionAlarmBounds();
        conversionFine();
        storeListensTo24();
        fineBits();
        bytesAreSix();
        powerTillReset();
        savedAtFirst();
        statusAgainAndAgain();
        outputsListenTo16();
        outputsComplement();
        memoryListensTo40();
        memoryTargetModulo();
        memoryTellsItsPad();
        memoryPutsOnTarget();
        memoryReadsGoRound();
        memoryNeverAlarms();
        deadLosesItsStore();
        counterTellsItsCount();
        counterListensTo32();
        counterClears();
        Check.end();
    }

    private static LoneWire with(int family) {
        LoneWire x = new LoneWire();
        x.attach(family, 0, 30, 4, false);
        return x;
    }

    private static long address(LoneWire x, int device) {
        long checked = x.device(device, 0) | (long) x.device(device, 1) << 8;
        return checked | (long) x.device(device, 11) << 56;
    }

    private static void writeLong(LoneWire x, long v, int n) {
        for (int bit = 0; bit < n; bit++) {
            x.write((int) (v >> bit & 1), 1);
        }
    }

    private static void dueDoing(String what, LoneWire x, int due) {
        Check.dueDevice(what, x, 0, 3, due);
    }

    // ---- COMMANDS behind RESET

    /** "COMMANDS have 8 bits, the lowest first." */
    private static void commandHasEightBits() {
        LoneWire x = with(MEMORY);
        x.reset();
        x.write(51, 7);
        dueDoing("seven bits: it LISTENS", x, 1);
        x.write(0, 1);
        dueDoing("eight: it TELLS", x, 2);
        x.reset();
        x.write(204, 8);
        x.write(170, 7);
        dueDoing("seven bits: it LISTENS", x, 1);
        x.write(1, 1);
        dueDoing("eight: it TELLS", x, 2);
        x.reset();
        x.write(51, 5);
        x.reset();
        x.write(51, 8);
        Check.due("RESET: the bits begin anew", MEMORY, x.read(8));
    }

    /** "51 it TELLS its ADDRESS, is DEAF then". */
    private static void ownAddressHas64Bits() {
        LoneWire x = with(COUNTER);
        x.reset();
        x.write(51, 8);
        long told = 0;
        for (int bit = 0; bit < 64; bit++) {
            dueDoing("bit " + bit + " is to be told", x, 2);
            told |= (long) x.read(1) << bit;
        }
        Check.due("its ADDRESS", address(x, 0), told);
        dueDoing("DEAF then", x, 0);
        Check.due("nobody tells", 255, x.read(8));
    }

    /** "85 it LISTENS to 64 bits, is CHOSEN if they are its ADDRESS, else DEAF from the first other one on". */
    private static void matchAtEachBit() {
        for (int wrong = 0; wrong <= 64; wrong++) {
            LoneWire x = with(SWITCH);
            long address = address(x, 0);
            x.reset();
            x.write(85, 8);
            writeLong(x, address, Math.min(wrong, 63));
            dueDoing("like for " + wrong + " bits", x, 1);
            Check.dueDevice("not MINE yet", x, 0, 12, 0);
            if (wrong < 63) {
                x.write((int) (~address >> wrong & 1), 1);
                dueDoing("bit " + wrong + " is another", x, 0);
                writeLong(x, address >> wrong + 1, 63 - wrong);
                dueDoing("and it is DEAF to the others", x, 0);
                Check.dueDevice("not MINE", x, 0, 12, 0);
            } else {
                x.write((int) ((wrong == 64 ? address : ~address) >> 63 & 1), 1);
                dueDoing("the last bit", x, wrong == 64 ? 1 : 0);
                Check.dueDevice("MINE", x, 0, 12, wrong == 64 ? 1 : 0);
            }
        }
    }

    /** "240 SEARCH: .. another one: it is DEAF". */
    private static void searchAtEachBit() {
        for (int wrong = 0; wrong < 64; wrong++) {
            LoneWire x = with(MEMORY);
            long address = address(x, 0);
            x.reset();
            x.write(240, 8);
            searchFor(x, address, wrong);
            Check.due("the bit and its complement", (address >> wrong & 1) == 1 ? 1 : 2, x.read(2));
            dueDoing("it LISTENS", x, 1);
            x.write((int) (~address >> wrong & 1), 1);
            dueDoing("another one at " + wrong, x, 0);
            Check.due("nobody is there any more", 3, x.read(2));
            Check.dueDevice("not MINE", x, 0, 12, 0);
        }
    }

    private static void searchFor(LoneWire x, long address, int bits) {
        for (int bit = 0; bit < bits; bit++) {
            x.read(2);
            x.write((int) (address >> bit & 1), 1);
        }
    }

    /** "behind all it is CHOSEN". */
    private static void searchBehindAll() {
        LoneWire x = with(MEMORY);
        x.reset();
        x.write(240, 8);
        searchFor(x, address(x, 0), 63);
        dueDoing("63 bits: it TELLS the last", x, 2);
        x.read(2);
        Check.dueDevice("not MINE yet", x, 0, 12, 0);
        x.write((int) (address(x, 0) >> 63 & 1), 1);
        Check.dueDevice("MINE", x, 0, 12, 1);
        x.write(170, 8);
        Check.due("CHOSEN: TARGET", 0, x.read(8));
        dueDoing("it TELLS", x, 2);
    }

    /** "236 likewise, if it calls an ALARM, else it is DEAF". */
    private static void alarmSearch() {
        LoneWire x = with(SWITCH);
        x.reset();
        x.write(236, 8);
        dueDoing("no ALARM: DEAF", x, 0);
        x.press(0, 0, true);
        dueDoing("DEAF till RESET", x, 0);
        x.reset();
        x.write(236, 8);
        dueDoing("ALARM: it TELLS", x, 2);
        searchFor(x, address(x, 0), 64);
        dueDoing("CHOSEN", x, 1);
        Check.dueDevice("MINE", x, 0, 12, 1);
        Check.dueDevice("its ALARM is called yet", x, 0, 5, 1);
        x.write(245, 8);
        Check.dueDevice("till 245", x, 0, 5, 0);
        x.reset();
        x.write(236, 8);
        dueDoing("no ALARM: DEAF", x, 0);
    }

    /** "60, 105 one without FAST is DEAF; else SPEED is 1". */
    private static void overdriveWithoutFast() {
        for (int fast : new int[] {0, 2, 6}) {
            for (int command : new int[] {60, 105}) {
                LoneWire x = new LoneWire();
                x.attach(MEMORY, 0, 30, fast, false);
                x.reset();
                x.write(command, 8);
                dueDoing("FAST " + fast + ", " + command, x, fast == 0 ? 0 : 1);
                Check.dueDevice("SPEED", x, 0, 2, fast == 0 ? 0 : 1);
                Check.dueDevice("not MINE", x, 0, 12, 0);
            }
        }
    }

    /** "105: as 85". */
    private static void overdriveMatchAtEachBit() {
        for (int wrong : new int[] {0, 1, 7, 8, 62, 63, 64}) {
            LoneWire x = with(COUNTER);
            long address = address(x, 0);
            x.reset();
            x.write(105, 8);
            x.speed(1);
            writeLong(x, wrong < 64 ? address ^ 1L << wrong : address, 64);
            dueDoing("wrong at " + wrong, x, wrong < 64 ? 0 : 1);
            Check.dueDevice("MINE", x, 0, 12, wrong < 64 ? 0 : 1);
            Check.dueDevice("SPEED", x, 0, 2, 1);
        }
    }

    private static void choose(LoneWire x) {
        x.reset();
        x.write(85, 8);
        writeLong(x, address(x, 0), 64);
        Check.dueDevice("MINE by 85", x, 0, 12, 1);
    }

    /** "MINE it is .. till a COMMAND behind RESET but 165 is taken by it." */
    private static void mineFromTill() {
        for (int command = 0; command < 256; command++) {
            LoneWire x = with(MEMORY);
            choose(x);
            x.write(command, 8);
            Check.dueDevice("a COMMAND of its KIND: " + command, x, 0, 12, 1);
            x.reset();
            Check.dueDevice("RESET", x, 0, 12, 1);
            x.write(command, 7);
            Check.dueDevice("seven bits", x, 0, 12, 1);
            x.write(command >> 7, 1);
            Check.dueDevice("behind RESET: " + command, x, 0, 12, command == 165 ? 1 : 0);
        }
        LoneWire x = with(MEMORY);
        x.reset();
        x.write(204, 8);
        Check.dueDevice("not by 204", x, 0, 12, 0);
        x.reset();
        x.write(165, 8);
        dueDoing("165, not MINE: DEAF", x, 0);
        choose(x);
        for (int i = 0; i < 3; i++) {
            x.reset();
            x.write(165, 8);
            dueDoing("165, MINE: CHOSEN", x, 1);
        }
    }

    private static void mineIsLostByDying() {
        for (int us : new int[] {2000, 2001}) {
            LoneWire x = new LoneWire();
            x.attach(MEMORY, 0, 30, 0, true);
            choose(x);
            x.write(0, 8);
            dueDoing("DEAF", x, 0);
            x.idle(2000);
            Check.drain(x, us);
            Check.dueDevice("LOW for " + us, x, 0, 12, us > 2000 ? 0 : 1);
        }
    }

    /** "All others: DEAF." */
    private static void otherCommands() {
        for (int fast : new int[] {0, 4}) {
            for (int command = 0; command < 256; command++) {
                LoneWire x = new LoneWire();
                x.attach(MEMORY, 0, 30, fast, false);
                x.reset();
                x.write(command, 8);
                int due;
                switch (command) {
                    case 51, 240 -> due = 2;
                    case 85, 204 -> due = 1;
                    case 60, 105 -> due = fast == 0 ? 0 : 1;
                    default -> due = 0;
                }
                dueDoing("COMMAND " + command + ", FAST " + fast, x, due);
            }
        }
    }

    /** Of each KIND: what it does behind each COMMAND. */
    private static void otherKindCommands() {
        int[][] listens = {{78}, {90}, {15, 85, 240}, {77}};
        int[][] tells = {{68, 190, 180}, {245}, {170}, {66}};
        for (int i = 0; i < 4; i++) {
            for (int command = 0; command < 256; command++) {
                LoneWire x = with(FAMILIES[i]);
                Check.tellAll(x, command);
                int due = isIn(command, listens[i]) ? 1 : isIn(command, tells[i]) ? 2 : 0;
                dueDoing("FAMILY " + FAMILIES[i] + ", COMMAND " + command, x, due);
                Check.dueDevice("CONVERTS", x, 0, 6, i == 0 && command == 68 ? 1 : 0);
            }
        }
    }

    /** What is in store changes by its own COMMANDS alone. */
    private static void commandsLeaveTheRest() {
        for (int command = 0; command < 256; command++) {
            LoneWire x = thermometer(1, 2, 1);
            Check.tellAll(x, command);
            dueStored(x, command == 184 ? 75 : 1, command == 184 ? 70 : 2, command == 184 ? 3 : 1);
            Check.dueDevice("HEAT", x, 0, 7, 1360);
            Check.tellAll(x, 184);
            dueStored(x, command == 72 ? 1 : 75, command == 72 ? 2 : 70, command == 72 ? 1 : 3);
            LoneWire y = with(SWITCH);
            Check.tellAll(y, 90, 3, 252);
            y.press(0, 1, true);
            Check.tellAll(y, command);
            Check.dueDevice("OUTPUTS behind " + command, y, 0, 8, 3);
            Check.dueDevice("PINS behind " + command, y, 0, 7, 2);
            Check.dueDevice("ALARM behind " + command, y, 0, 5, command == 245 ? 0 : 1);
            LoneWire z = with(MEMORY);
            Check.tellAll(z, 15, 9, 1, 2, 3, 4);
            Check.tellAll(z, command);
            Check.dueDevice("TARGET behind " + command, z, 0, 7, 9);
            Check.dueDevice("PAD behind " + command, z, 0, 8, 0x04030201);
            Check.due("byte 9 behind " + command, 0, z.stored(0, 9));
            LoneWire v = with(COUNTER);
            Check.tellAll(v, 77, 2, 0, 0, 0);
            v.pulse(0, 3);
            Check.tellAll(v, command);
            Check.dueDevice("COUNT behind " + command, v, 0, 7, command == 83 ? 0 : 3);
            Check.dueDevice("LIMIT behind " + command, v, 0, 8, 2);
            Check.dueDevice("ALARM behind " + command, v, 0, 5, command == 83 ? 0 : 1);
        }
    }

    private static boolean isIn(int v, int[] all) {
        for (int one : all) {
            if (one == v) {
                return true;
            }
        }
        return false;
    }

    // ---- a THERMOMETER

    private static LoneWire thermometer(int high, int low, int fine) {
        LoneWire x = with(THERMOMETER);
        Check.tellAll(x, 78, high, low, 32 * fine);
        return x;
    }

    /** "68 it CONVERTS for 900 times 2 to FINE US". */
    private static void conversionTimes() {
        int[] due = {900, 1800, 3600, 7200};
        for (int fine = 0; fine < 4; fine++) {
            LoneWire x = thermometer(75, 70, fine);
            Check.tellAll(x, 68);
            Check.dueDevice("it CONVERTS", x, 0, 6, 1);
            x.idle(due[fine] - 1);
            Check.dueDevice("one US less, FINE " + fine, x, 0, 6, 1);
            Check.dueDevice("HEAT as it was", x, 0, 7, 1360);
            x.idle(1);
            Check.dueDevice("through, FINE " + fine, x, 0, 6, 0);
            Check.dueDevice("HEAT", x, 0, 7, 320);
        }
        LoneWire y = thermometer(75, 70, 0);
        Check.tellAll(y, 68);
        y.idle(899);
        Check.tellAll(y, 68);
        Check.dueDevice("through, and a second one begun anew", y, 0, 6, 1);
        y.idle(899);
        Check.dueDevice("one US less", y, 0, 6, 1);
        y.idle(1);
        Check.dueDevice("through", y, 0, 6, 0);
    }

    /** "a second 68 begins anew": while the first goes on, and with FINE as it is then. */
    private static void conversionBeginsAnew() {
        int until68 = 900 + 16 * 95;
        LoneWire x = with(THERMOMETER);
        Check.tellAll(x, 68);
        x.idle(7200 - until68 - 1);
        Check.tellAll(x, 68);
        Check.dueDevice("the first had one US left", x, 0, 7, 1360);
        x.idle(7199);
        Check.dueDevice("one US is left of the second", x, 0, 6, 1);
        Check.dueDevice("HEAT as it was", x, 0, 7, 1360);
        x.idle(1);
        Check.dueDevice("through", x, 0, 7, 320);
        LoneWire y = with(THERMOMETER);
        Check.tellAll(y, 68);
        Check.tellAll(y, 78, 75, 70, 0);
        Check.tellAll(y, 68);
        y.idle(899);
        Check.dueDevice("one US is left of 900", y, 0, 6, 1);
        y.idle(1);
        Check.dueDevice("through", y, 0, 6, 0);
    }

    /** FINE, HIGH, LOW told while it CONVERTS: it goes on for as long as it was to; behind that all is by what they are then. */
    private static void conversionFineThen() {
        int until78 = 900 + 40 * 95;
        LoneWire x = with(THERMOMETER);
        x.heat(0, 327);
        Check.tellAll(x, 68);
        Check.tellAll(x, 78, 30, 10, 0);
        x.idle(7200 - until78 - 1);
        Check.dueDevice("one US is left of 7200", x, 0, 6, 1);
        x.idle(1);
        Check.dueDevice("through", x, 0, 6, 0);
        Check.dueDevice("cut by FINE 0", x, 0, 7, 320);
        Check.dueDevice("20 is below 30, above 10: no ALARM", x, 0, 5, 0);
    }

    /** "behind that HEAT is what is there ..": not ahead of it. */
    private static void conversionHidesTillThrough() {
        LoneWire x = thermometer(75, 70, 0);
        x.heat(0, 160);
        Check.tellAll(x, 68);
        x.idle(450);
        Check.dueDevice("half of it: HEAT as it was", x, 0, 7, 1360);
        Check.dueDevice("no ALARM yet", x, 0, 5, 0);
        x.heat(0, 1200);
        x.idle(449);
        Check.dueDevice("one US less: as it was", x, 0, 7, 1360);
        x.idle(1);
        Check.dueDevice("what is there then", x, 0, 7, 1200);
        x.heat(0, 0);
        x.idle(5000);
        Check.dueDevice("and no more behind it", x, 0, 7, 1200);
    }

    /** "it TELLS 0 as long as it CONVERTS (one that is FED: 1), then 1, till RESET". */
    private static void conversionTells() {
        for (int left : new int[] {0, 1, 2}) {
            LoneWire x = thermometer(75, 70, 0);
            Check.tellAll(x, 68);
            x.idle(900 - left);
            Check.due(left + " US are left as the SLOT begins", left == 0 ? 1 : 0, x.read(1));
            Check.due("none are left", 255, x.read(8));
            dueDoing("it TELLS on", x, 2);
            x.reset();
            dueDoing("till RESET", x, 1);
        }
        LoneWire y = new LoneWire();
        y.attach(THERMOMETER, 0, 30, 0, true);
        Check.tellAll(y, 68);
        Check.due("FED: 1", 3, y.read(2));
        Check.dueDevice("though it CONVERTS", y, 0, 6, 1);
    }

    private static void dueAlarm(int high, int low, int heat, int due) {
        LoneWire x = thermometer(high, low, 3);
        x.heat(0, heat);
        Check.tellAll(x, 68);
        x.idle(7200);
        Check.dueDevice("HIGH " + high + ", LOW " + low + ", HEAT " + heat, x, 0, 5, due);
    }

    /** "its ALARM is called if that by 16 (rounded down) is HIGH or more, LOW or less, else not". */
    private static void conversionAlarmBounds() {
        dueAlarm(20, 10, 20 * 16 - 1, 0);
        dueAlarm(20, 10, 20 * 16, 1);
        dueAlarm(20, 10, 11 * 16, 0);
        dueAlarm(20, 10, 11 * 16 - 1, 1);
        dueAlarm(20, 10, 10 * 16, 1);
        // Rounded down: -1 sixteenth is -1, -17 is -2.
        dueAlarm(5, 256 - 1, 0, 0);
        dueAlarm(5, 256 - 1, -1, 1);
        dueAlarm(5, 256 - 2, -16, 0);
        dueAlarm(5, 256 - 2, -17, 1);
        dueAlarm(0, 256 - 50, -1, 0);
        dueAlarm(0, 256 - 50, 0, 1);
        // The least and the greatest that can be: -55 and 125.
        dueAlarm(127, 256 - 56, -880, 0);
        dueAlarm(127, 256 - 55, -880, 1);
        dueAlarm(126, 128, 2000, 0);
        dueAlarm(125, 128, 2000, 1);
        LoneWire x = thermometer(20, 10, 3);
        for (int heat : new int[] {320, 319, 175, 176}) {
            x.heat(0, heat);
            Check.tellAll(x, 68);
            x.idle(7200);
            Check.dueDevice("else not: " + heat, x, 0, 5, heat == 320 || heat == 175 ? 1 : 0);
        }
    }

    /** "all but the highest 9 and FINE of 12 bits being 0 (the lowest 3 - FINE bits)". */
    private static void conversionFine() {
        for (int fine = 0; fine < 4; fine++) {
            LoneWire x = thermometer(75, 70, fine);
            int step = 8 >> fine;
            for (int heat : new int[] {-880, -1, 0, 1, step - 1, step, 7, 8, 1999, 2000}) {
                x.heat(0, heat);
                Check.tellAll(x, 68);
                x.idle(7200);
                Check.dueDevice("FINE " + fine + " of " + heat, x, 0, 7, Math.floorDiv(heat, step) * step);
            }
        }
        // ALARM by what is cut: 319 is 312 by FINE 0, which is 19 all the same; -1 is -8.
        LoneWire y = thermometer(20, 256 - 1, 0);
        y.heat(0, -1);
        Check.tellAll(y, 68);
        y.idle(900);
        Check.dueDevice("-8 is -1 degree", y, 0, 5, 1);
    }

    /** "78 it LISTENS to 24 bits: HIGH, LOW, FINE, is DEAF then". */
    private static void storeListensTo24() {
        LoneWire x = with(THERMOMETER);
        Check.tellAll(x, 78, 1, 2);
        x.write(0, 7);
        dueDoing("23 bits: it LISTENS", x, 1);
        Check.dueDevice("HIGH as it was", x, 0, 8, 75);
        Check.dueDevice("LOW as it was", x, 0, 9, 70);
        Check.dueDevice("FINE as it was", x, 0, 10, 3);
        x.write(0, 1);
        dueDoing("24: DEAF", x, 0);
        Check.dueDevice("HIGH", x, 0, 8, 1);
        Check.dueDevice("LOW", x, 0, 9, 2);
        Check.dueDevice("FINE", x, 0, 10, 0);
        x.write(255, 8);
        Check.dueDevice("no more", x, 0, 8, 1);
    }

    /** "FINE (0 .. 3: of a byte bits 5, 6)", told "as 31 and 32 times it". */
    private static void fineBits() {
        for (int b : new int[] {0, 31, 32, 63, 64, 95, 96, 127, 128, 159, 160, 255}) {
            LoneWire x = with(THERMOMETER);
            Check.tellAll(x, 78, 75, 70, b);
            int fine = b / 32 % 4;
            Check.dueDevice("byte " + b, x, 0, 10, fine);
            Check.tellAll(x, 190);
            Check.dueBytes("told", x, 0x50, 5, 75, 70, 31 + 32 * fine);
        }
    }

    /** "190 it TELLS its 5 bytes .. and CHECKSUM of these 40 bits, is DEAF then". */
    private static void bytesAreSix() {
        for (int heat : new int[] {-880, -1, 0, 1, 255, 256, 2000}) {
            LoneWire x = thermometer(128, 127, 3);
            x.heat(0, heat);
            Check.tellAll(x, 68);
            x.idle(7200);
            Check.tellAll(x, 190);
            long bits = heat & 0xffffL | 128L << 16 | 127L << 24 | 127L << 32;
            Check.dueBytes("HEAT " + heat, x, heat & 255, heat >> 8 & 255, 128, 127, 127);
            Check.due("CHECKSUM", Check.checksum(bits, 40) & 127, x.read(7));
            dueDoing("47 bits: it TELLS", x, 2);
            Check.due("its last bit", Check.checksum(bits, 40) >> 7, x.read(1));
            dueDoing("48: DEAF", x, 0);
            Check.due("nobody tells", 255, x.read(8));
        }
    }

    /** "180 it TELLS 0, if it is FED, else 1, till RESET". */
    private static void powerTillReset() {
        for (boolean fed : new boolean[] {false, true}) {
            LoneWire x = new LoneWire();
            x.attach(THERMOMETER, 0, 15, 0, fed);
            Check.tellAll(x, 180);
            for (int i = 0; i < 20; i++) {
                Check.due("FED " + fed, fed ? 0 : 255, x.read(8));
            }
            dueDoing("it TELLS on", x, 2);
            x.reset();
            dueDoing("till RESET", x, 1);
        }
    }

    /** "HIGH, LOW, FINE are as SAVED (at first 75, 70, 3)"; DEAD they are so again. */
    private static void savedAtFirst() {
        LoneWire x = with(THERMOMETER);
        Check.tellAll(x, 78, 1, 2, 32);
        Check.tellAll(x, 184);
        dueStored(x, 75, 70, 3);
        Check.tellAll(x, 78, 127, 128, 32);
        dueStored(x, 127, -128, 1);
        Check.tellAll(x, 72);
        Check.tellAll(x, 78, 1, 2, 0);
        Check.tellAll(x, 184);
        dueStored(x, 127, -128, 1);
        dueDoing("DEAF behind 184", x, 0);
        LoneWire y = new LoneWire();
        y.attach(THERMOMETER, 0, 30, 0, true);
        Check.tellAll(y, 78, 127, 128, 32);
        y.idle(2000);
        Check.drain(y, 2000);
        dueStored(y, 127, -128, 1);
        Check.drain(y, 1);
        dueStored(y, 75, 70, 3);
    }

    private static void dueStored(LoneWire x, int high, int low, int fine) {
        Check.dueDevice("HIGH", x, 0, 8, high);
        Check.dueDevice("LOW", x, 0, 9, low);
        Check.dueDevice("FINE", x, 0, 10, fine);
    }

    // ---- a SWITCH

    /** "245 it TELLS a byte .., again and again, as it is as each begins, till RESET". */
    private static void statusAgainAndAgain() {
        LoneWire x = with(SWITCH);
        int[] lower = {0, 1, 4, 5, 2, 3, 6, 7, 8, 9, 12, 13, 10, 11, 14, 15};
        for (int i = 0; i < 16; i++) {
            int pins = i & 3;
            int outputs = i >> 2;
            x.press(0, 0, (pins & 1) == 1);
            x.press(0, 1, (pins & 2) == 2);
            Check.tellAll(x, 90, outputs, 255 - outputs);
            Check.tellAll(x, 245);
            int due = lower[i] | (15 - lower[i]) << 4;
            Check.dueBytes("PINS " + pins + ", OUTPUTS " + outputs, x, due, due, due);
            x.read(7);
            x.press(0, 0, (pins & 1) == 0);
            Check.due("the last bit as it was as it began", due >> 7, x.read(1));
            int other = due ^ 0x11;
            Check.dueBytes("the next as it is as it begins", x, other, other);
        }
        dueDoing("it TELLS on", x, 2);
        x.reset();
        dueDoing("till RESET", x, 1);
        x.press(0, 0, false);
        Check.tellAll(x);
        x.write(245, 8);
        x.press(0, 0, true);
        Check.due("PRESSED ahead of its first bit", 1, x.read(1));
    }

    /** "90 it LISTENS to 16 bits .. it TELLS 170 as a byte, is DEAF then". */
    private static void outputsListenTo16() {
        LoneWire x = with(SWITCH);
        Check.tellAll(x, 90, 3);
        x.write(252, 7);
        dueDoing("15 bits: it LISTENS", x, 1);
        Check.dueDevice("OUTPUTS as they were", x, 0, 8, 0);
        x.write(1, 1);
        dueDoing("16: it TELLS", x, 2);
        Check.dueDevice("OUTPUTS", x, 0, 8, 3);
        Check.due("170", 170 & 127, x.read(7));
        dueDoing("seven bits: it TELLS", x, 2);
        Check.due("its last bit", 1, x.read(1));
        dueDoing("DEAF then", x, 0);
        Check.due("nobody tells", 255, x.read(8));
    }

    /** "if the upper 8 are the complement of the lower 8": all 8 of them. */
    private static void outputsComplement() {
        for (int lower : new int[] {0, 1, 2, 3, 4, 128, 255}) {
            for (int wrong = 0; wrong <= 8; wrong++) {
                LoneWire x = with(SWITCH);
                Check.tellAll(x, 90, 2, 253);
                Check.tellAll(x, 90, lower, 255 - lower ^ (wrong < 8 ? 1 << wrong : 0));
                Check.dueDevice(lower + ", wrong at " + wrong, x, 0, 8, wrong < 8 ? 2 : lower & 3);
                dueDoing("DEAF or telling", x, wrong < 8 ? 0 : 2);
                Check.due("what it tells", wrong < 8 ? 255 : 170, x.read(8));
            }
        }
    }

    // ---- a MEMORY

    /** "15 it LISTENS to 40 bits .. it TELLS CHECKSUM of these 40 bits (8), is DEAF then". */
    private static void memoryListensTo40() {
        LoneWire x = with(MEMORY);
        Check.tellAll(x, 15, 7, 1, 2, 3);
        x.write(4, 7);
        dueDoing("39 bits: it LISTENS", x, 1);
        Check.dueDevice("TARGET as it was", x, 0, 7, 0);
        Check.dueDevice("PAD as it was", x, 0, 8, 0);
        x.write(0, 1);
        dueDoing("40: it TELLS", x, 2);
        Check.dueDevice("TARGET", x, 0, 7, 7);
        Check.dueDevice("PAD", x, 0, 8, 0x04030201);
        int checksum = Check.checksum(0x0403020107L, 40);
        Check.due("CHECKSUM", checksum & 127, x.read(7));
        dueDoing("seven bits: it TELLS", x, 2);
        Check.due("its last bit", checksum >> 7, x.read(1));
        dueDoing("DEAF then", x, 0);
        Check.due("nobody tells", 255, x.read(8));
        Check.due("nothing is put", 0, x.stored(0, 7));
    }

    /** "TARGET (modulo 16)": its CHECKSUM is of the bits as they came. */
    private static void memoryTargetModulo() {
        for (int target : new int[] {0, 1, 15, 16, 17, 127, 128, 240, 255}) {
            LoneWire x = with(MEMORY);
            Check.tellAll(x, 15, target, 9, 8, 7, 6);
            Check.dueBytes("TARGET " + target, x, Check.checksum(0x0607080900L | target, 40));
            Check.dueDevice("modulo 16", x, 0, 7, target % 16);
            Check.tellAll(x, 170);
            Check.dueBytes("told", x, target % 16, 9, 8, 7, 6, Check.checksum(0x0607080900L | target % 16, 40));
        }
    }

    /** "170 it TELLS TARGET (8), PAD, CHECKSUM of these 40, is DEAF then". */
    private static void memoryTellsItsPad() {
        LoneWire x = with(MEMORY);
        Check.tellAll(x, 15, 3, 255, 0, 254, 129);
        Check.tellAll(x, 170);
        int checksum = Check.checksum(0x81fe00ff03L, 40);
        Check.dueBytes("TARGET, PAD", x, 3, 255, 0, 254, 129);
        Check.due("CHECKSUM", checksum & 127, x.read(7));
        dueDoing("47 bits: it TELLS", x, 2);
        Check.due("its last bit", checksum >> 7, x.read(1));
        dueDoing("48: DEAF", x, 0);
    }

    /** "85 it LISTENS to 8 bits: if they are TARGET .. it TELLS 170, is DEAF then; else it is DEAF". */
    private static void memoryPutsOnTarget() {
        for (int said = 0; said < 256; said++) {
            LoneWire x = with(MEMORY);
            Check.tellAll(x, 15, 0x25, 1, 2, 3, 4);
            Check.tellAll(x, 85);
            x.write(said, 7);
            dueDoing("seven bits: it LISTENS", x, 1);
            x.write(said >> 7, 1);
            dueDoing("said " + said, x, said == 5 ? 2 : 0);
            Check.due("put", said == 5 ? 1 : 0, x.stored(0, 5));
            Check.due("put", said == 5 ? 4 : 0, x.stored(0, 8));
            Check.due("seven bits", said == 5 ? 170 & 127 : 127, x.read(7));
            dueDoing("its last bit is to be told", x, said == 5 ? 2 : 0);
            Check.due("the last", 1, x.read(1));
            dueDoing("DEAF then", x, 0);
        }
    }

    /** "240 .. of the byte of that number (modulo 16) on it TELLS four, and CHECKSUM of these 32, is DEAF then". */
    private static void memoryReadsGoRound() {
        LoneWire x = with(MEMORY);
        for (int target = 0; target < 16; target += 4) {
            Check.tellAll(x, 15, target, 11 + target, 12 + target, 13 + target, 240 + target);
            Check.tellAll(x, 85, target);
        }
        for (int from : new int[] {0, 1, 11, 12, 13, 14, 15, 16, 29, 31, 255}) {
            Check.tellAll(x, 240, from);
            long four = 0;
            for (int i = 0; i < 4; i++) {
                int stored = x.stored(0, (from + i) % 16);
                Check.due("byte " + i + " from " + from, stored, x.read(8));
                four |= (long) stored << 8 * i;
            }
            int checksum = Check.checksum(four, 32);
            Check.due("CHECKSUM", checksum & 127, x.read(7));
            dueDoing("39 bits: it TELLS", x, 2);
            Check.due("its last bit", checksum >> 7, x.read(1));
            dueDoing("40: DEAF", x, 0);
        }
        Check.tellAll(x, 240);
        x.write(3, 7);
        dueDoing("seven bits: it LISTENS", x, 1);
    }

    /** "It never calls an ALARM." */
    private static void memoryNeverAlarms() {
        LoneWire x = with(MEMORY);
        Check.tellAll(x, 15, 3, 255, 255, 255, 255);
        Check.tellAll(x, 85, 3);
        Check.dueDevice("no ALARM", x, 0, 5, 0);
        x.reset();
        x.write(236, 8);
        dueDoing("DEAF", x, 0);
    }

    /** "what is in store, OUTPUTS are as at first": at CHARGE 0 not yet; "(Its bytes stay ..)". */
    private static void deadLosesItsStore() {
        for (int us : new int[] {2000, 2001}) {
            boolean dead = us > 2000;
            LoneWire x = new LoneWire();
            x.attach(MEMORY, 0, 30, 0, true);
            x.attach(SWITCH, 0, 30, 0, true);
            x.attach(COUNTER, 0, 30, 0, true);
            Check.tellAll(x, 15, 9, 1, 2, 3, 4);
            Check.tellAll(x, 85, 9);
            Check.tellAll(x, 90, 3, 252);
            Check.tellAll(x, 77, 2, 0, 0, 0);
            x.press(1, 0, true);
            x.pulse(2, 3);
            x.idle(2000);
            Check.drain(x, us);
            Check.dueDevice("TARGET", x, 0, 7, dead ? 0 : 9);
            Check.dueDevice("PAD", x, 0, 8, dead ? 0 : 0x04030201);
            Check.due("byte 9", 1, x.stored(0, 9));
            Check.dueDevice("PINS", x, 1, 7, 1);
            Check.dueDevice("OUTPUTS", x, 1, 8, dead ? 0 : 3);
            Check.dueDevice("ALARM", x, 1, 5, dead ? 0 : 1);
            Check.dueDevice("COUNT", x, 2, 7, dead ? 0 : 3);
            Check.dueDevice("LIMIT", x, 2, 8, dead ? 0 : 2);
            Check.dueDevice("ALARM", x, 2, 5, dead ? 0 : 1);
        }
    }

    // ---- a COUNTER

    /** "66 it TELLS COUNT as 32 bits and CHECKSUM of these, is DEAF then". */
    private static void counterTellsItsCount() {
        LoneWire x = with(COUNTER);
        x.pulse(0, 1000);
        Check.tellAll(x, 66);
        Check.dueBytes("COUNT", x, 1000 & 255, 1000 >> 8, 0, 0);
        int checksum = Check.checksum(1000, 32);
        Check.due("CHECKSUM", checksum & 127, x.read(7));
        dueDoing("39 bits: it TELLS", x, 2);
        Check.due("its last bit", checksum >> 7, x.read(1));
        dueDoing("40: DEAF", x, 0);
        Check.dueDevice("COUNT stays", x, 0, 7, 1000);
    }

    /** "77 it LISTENS to 32 bits: LIMIT (the highest is cut), is DEAF then". */
    private static void counterListensTo32() {
        LoneWire x = with(COUNTER);
        Check.tellAll(x, 77, 1, 2, 3);
        x.write(4, 7);
        dueDoing("31 bits: it LISTENS", x, 1);
        Check.dueDevice("LIMIT as it was", x, 0, 8, 0);
        x.write(0, 1);
        dueDoing("32: DEAF", x, 0);
        Check.dueDevice("LIMIT", x, 0, 8, 0x04030201);
        Check.tellAll(x, 77, 255, 255, 255, 127);
        Check.dueDevice("the greatest", x, 0, 8, Integer.MAX_VALUE);
        Check.tellAll(x, 77, 255, 255, 255, 255);
        Check.dueDevice("the highest is cut", x, 0, 8, Integer.MAX_VALUE);
        Check.tellAll(x, 77, 0, 0, 0, 128);
        Check.dueDevice("nothing else is left", x, 0, 8, 0);
        x.pulse(0, 1000);
        Check.dueDevice("LIMIT 0 calls no ALARM", x, 0, 5, 0);
    }

    /** "83 COUNT is 0, its ALARM is not called any more, it is DEAF". */
    private static void counterClears() {
        LoneWire x = with(COUNTER);
        Check.tellAll(x, 77, 5, 0, 0, 0);
        x.pulse(0, 5);
        Check.dueDevice("ALARM", x, 0, 5, 1);
        Check.tellAll(x);
        x.write(83, 7);
        Check.dueDevice("seven bits: COUNT as it was", x, 0, 7, 5);
        x.write(83 >> 7, 1);
        Check.dueDevice("COUNT", x, 0, 7, 0);
        Check.dueDevice("ALARM", x, 0, 5, 0);
        Check.dueDevice("LIMIT stays", x, 0, 8, 5);
        dueDoing("DEAF", x, 0);
        Check.due("from 0 on", 4, x.pulse(0, 4));
        Check.dueDevice("below LIMIT", x, 0, 5, 0);
        x.pulse(0, 1);
        Check.dueDevice("LIMIT", x, 0, 5, 1);
    }
}
