/** The Terms of COMMANDS and KINDS: what promises 6, 14 and 15 show of them. */
public final class KindsTest {
    private static final int THERMOMETER = 40;
    private static final int SWITCH = 58;
    private static final int MEMORY = 35;
    private static final int COUNTER = 29;

    public static void main(String[] args) {
        matching();
        search();
        mine();
        overdrive();
        overdriveMatch();
        unknownCommands();
        thermometerBytes();
        thermometerSaves();
        thermometerFine();
        thermometerTells();
        thermometerFed();
        thermometerAlarm();
        switchStatus();
        switchOutputs();
        memory();
        counter();
        deadLoses();
        deadCounter();
        Check.end();
    }

    private static int[] addressOf(LoneWire x, int device) {
        int[] bytes = new int[8];
        bytes[0] = x.device(device, 0);
        for (int k = 0; k < 4; k++) {
            bytes[1 + k] = x.device(device, 1) >> 8 * k & 255;
        }
        bytes[7] = x.device(device, 11);
        return bytes;
    }

    private static void matching() {
        LoneWire x = new LoneWire();
        x.attach(MEMORY, 0x12345678, 30, 0, false);
        x.attach(MEMORY, 0x02345678, 30, 0, false);
        x.reset();
        x.write(85, 8);
        int[] bytes = addressOf(x, 0);
        for (int k = 0; k < 4; k++) {
            x.write(bytes[k], 8);
        }
        x.write(bytes[4], 4);
        Check.dueDevice("like till now", x, 1, 3, 1);
        x.write(bytes[4] >> 4, 1);
        Check.dueDevice("from the first other one on", x, 1, 3, 0);
        x.write(bytes[4] >> 5, 3);
        Check.writeBytes(x, bytes[5], bytes[6]);
        x.write(bytes[7], 7);
        Check.dueDevice("not MINE yet", x, 0, 12, 0);
        x.write(bytes[7] >> 7, 1);
        Check.dueDevice("MINE", x, 0, 12, 1);
        Check.dueDevice("CHOSEN: it LISTENS", x, 0, 3, 1);
        x.write(170, 8);
        Check.dueBytes("TARGET, PAD, CHECKSUM", x, 0, 0, 0, 0, 0, 0);
    }

    private static void search() {
        LoneWire x = new LoneWire();
        x.attach(MEMORY, 0, 30, 0, false);
        x.attach(COUNTER, 0, 30, 0, false);
        x.reset();
        x.write(240, 8);
        // 35 is 11000100, 29 is 10111000, the lowest first.
        Check.due("both have 1", 1, x.read(2));
        Check.dueDevice("then it LISTENS", x, 0, 3, 1);
        x.write(1, 1);
        Check.due("a FORK", 0, x.read(2));
        x.write(0, 1);
        Check.dueDevice("the MEMORY is DEAF", x, 0, 3, 0);
        Check.dueDevice("the COUNTER TELLS", x, 1, 3, 2);
        Check.due("the COUNTER's", 1, x.read(2));
        x.write(0, 1);
        Check.dueDevice("DEAF", x, 1, 3, 0);
        Check.due("nobody", 3, x.read(2));
        x.reset();
        x.write(236, 8);
        Check.due("nobody calls an ALARM", 3, x.read(2));
    }

    private static void mine() {
        LoneWire x = new LoneWire();
        x.attach(MEMORY, 0, 30, 0, false);
        x.reset();
        x.write(165, 8);
        Check.dueDevice("not MINE: DEAF", x, 0, 3, 0);
        x.pass(false);
        Check.dueDevice("MINE by 240", x, 0, 12, 1);
        x.reset();
        Check.dueDevice("RESET leaves it so", x, 0, 12, 1);
        x.write(165, 8);
        Check.dueDevice("CHOSEN", x, 0, 3, 1);
        Check.dueDevice("165 leaves it so", x, 0, 12, 1);
        x.write(99, 8);
        Check.dueDevice("a COMMAND of its KIND leaves it so", x, 0, 12, 1);
        x.reset();
        x.write(204, 7);
        Check.dueDevice("not taken yet", x, 0, 12, 1);
        x.write(204 >> 7, 1);
        Check.dueDevice("another COMMAND", x, 0, 12, 0);
        Check.dueDevice("CHOSEN", x, 0, 3, 1);
        x.pass(false);
        x.reset();
        x.write(1, 8);
        Check.dueDevice("any other COMMAND", x, 0, 12, 0);
    }

    private static void overdrive() {
        LoneWire x = new LoneWire();
        x.attach(SWITCH, 0, 30, 3, false);
        x.attach(SWITCH, 1, 30, 0, false);
        x.press(0, 1, true);
        x.reset();
        x.write(60, 8);
        Check.dueDevice("SPEED 1", x, 0, 2, 1);
        Check.dueDevice("without FAST", x, 1, 2, 0);
        Check.dueDevice("not MINE", x, 0, 12, 0);
        x.speed(1);
        x.write(245, 8);
        Check.dueBytes("told at SPEED 1", x, 0xb4, 0xb4);
        Check.due("RESET at SPEED 1", true, x.reset());
        Check.due("one of two", 1, x.trace(0, 4));
        Check.dueDevice("SPEED as it was", x, 0, 2, 1);
        x.speed(0);
        x.reset();
        Check.dueDevice("a long RESET", x, 0, 2, 0);
        x.reset();
        x.write(60, 8);
        // A 0 at SPEED 0 is 60 US long: a RESET for one at SPEED 1.
        x.write(0, 1);
        Check.due("RESET by a 0", 1, x.trace(0, 4));
        Check.dueDevice("SPEED as it was", x, 0, 2, 1);
    }

    private static void overdriveMatch() {
        LoneWire x = new LoneWire();
        x.attach(MEMORY, 1, 30, 3, false);
        x.attach(MEMORY, 0, 30, 3, false);
        x.reset();
        x.write(105, 8);
        Check.dueDevice("SPEED at once", x, 0, 2, 1);
        x.speed(1);
        Check.writeBytes(x, addressOf(x, 0));
        Check.dueDevice("CHOSEN", x, 0, 3, 1);
        Check.dueDevice("MINE", x, 0, 12, 1);
        Check.dueDevice("the other is DEAF", x, 1, 3, 0);
        Check.dueDevice("its SPEED", x, 1, 2, 1);
        x.attach(MEMORY, 2, 30, 0, false);
        x.speed(0);
        x.reset();
        x.write(105, 8);
        Check.dueDevice("without FAST", x, 2, 3, 0);
        Check.dueDevice("SPEED 0", x, 2, 2, 0);
    }

    private static void unknownCommands() {
        dueCommands(THERMOMETER, true, 68, 190, 78, 180);
        dueCommands(SWITCH, true, 245, 90);
        dueCommands(MEMORY, true, 15, 170, 85, 240);
        dueCommands(COUNTER, true, 66, 77);
        dueCommands(MEMORY, false, 51, 85, 204, 240);
    }

    /** Behind these COMMANDS alone one does not come to be DEAF. */
    private static void dueCommands(int family, boolean chosen, int... commands) {
        for (int command = 0; command < 256; command++) {
            boolean known = false;
            for (int c : commands) {
                known |= c == command;
            }
            LoneWire x = new LoneWire();
            x.attach(family, 0, 30, 0, false);
            x.reset();
            if (chosen) {
                x.write(204, 8);
            }
            x.write(command, 8);
            Check.due("KIND " + family + ", COMMAND " + command, known, x.device(0, 3) != 0);
        }
    }

    private static void thermometerBytes() {
        LoneWire x = new LoneWire();
        x.attach(THERMOMETER, 0, 30, 0, false);
        Check.tellAll(x, 190);
        // 1360, 75, 70, 3.
        Check.dueBytes("at first", x, 0x50, 0x05, 75, 70, 127, x.checksum(0x7f464b0550L, 40));
        Check.dueDevice("DEAF then", x, 0, 3, 0);
        Check.tellAll(x, 78, 200, 250, 0x40);
        Check.dueDevice("DEAF then", x, 0, 3, 0);
        Check.dueDevice("HIGH", x, 0, 8, -56);
        Check.dueDevice("LOW", x, 0, 9, -6);
        Check.dueDevice("FINE", x, 0, 10, 2);
        Check.tellAll(x, 190);
        Check.dueBytes("as written", x, 0x50, 0x05, 200, 250, 95);
        Check.tellAll(x, 78, 1, 2);
        x.write(255, 7);
        x.reset();
        Check.dueDevice("not all 24 bits", x, 0, 8, -56);
    }

    private static void thermometerSaves() {
        LoneWire x = new LoneWire();
        x.attach(THERMOMETER, 0, 30, 0, false);
        Check.tellAll(x, 78, 10, 5, 0);
        Check.tellAll(x, 184);
        Check.dueDevice("HIGH as SAVED", x, 0, 8, 75);
        Check.dueDevice("LOW as SAVED", x, 0, 9, 70);
        Check.dueDevice("FINE as SAVED", x, 0, 10, 3);
        Check.tellAll(x, 78, 10, 5, 0);
        Check.tellAll(x, 72);
        Check.dueDevice("DEAF behind 72", x, 0, 3, 0);
        Check.tellAll(x, 78, 11, 6, 0x60);
        Check.tellAll(x, 184);
        Check.dueDevice("HIGH as SAVED", x, 0, 8, 10);
        Check.dueDevice("LOW as SAVED", x, 0, 9, 5);
        Check.dueDevice("FINE as SAVED", x, 0, 10, 0);
    }

    private static void thermometerFine() {
        LoneWire x = new LoneWire();
        x.attach(THERMOMETER, 0, 30, 0, false);
        int[] heats = {-880 + 7, -1, 1999};
        int[][] due = {{-880, -8, 1992}, {-876, -4, 1996}, {-874, -2, 1998}, {-873, -1, 1999}};
        for (int fine = 0; fine < 4; fine++) {
            Check.tellAll(x, 78, 75, 70, 32 * fine);
            for (int i = 0; i < heats.length; i++) {
                x.heat(0, heats[i]);
                Check.tellAll(x, 68);
                x.idle((900 << fine) - 1);
                Check.dueDevice("it CONVERTS yet, FINE " + fine, x, 0, 6, 1);
                x.idle(1);
                Check.dueDevice("it is through, FINE " + fine, x, 0, 6, 0);
                Check.dueDevice("HEAT by FINE " + fine, x, 0, 7, due[fine][i]);
            }
        }
        Check.tellAll(x, 68);
        x.idle(7000);
        Check.tellAll(x, 68);
        x.heat(0, 48);
        x.idle(7199);
        Check.dueDevice("begun anew", x, 0, 6, 1);
        x.idle(1);
        Check.dueDevice("what is there at its end", x, 0, 7, 48);
    }

    private static void thermometerTells() {
        LoneWire x = new LoneWire();
        x.attach(THERMOMETER, 0, 30, 0, false);
        Check.tellAll(x, 68);
        Check.due("as long as it CONVERTS", 0, x.read(8));
        x.idle(7200 - 8 * 95 - 1);
        Check.due("its last US", 0, x.read(1));
        Check.due("then 1", 255, x.read(8));
        Check.dueDevice("it TELLS till RESET", x, 0, 3, 2);
        Check.tellAll(x, 68);
        x.reset();
        Check.dueDevice("RESET does not end it", x, 0, 6, 1);
        Check.dueDevice("it LISTENS", x, 0, 3, 1);
        Check.tellAll(x, 180);
        Check.due("not FED: 1", 255, x.read(8));
        Check.dueDevice("till RESET", x, 0, 3, 2);
    }

    private static void thermometerFed() {
        LoneWire x = new LoneWire();
        x.attach(THERMOMETER, 0, 30, 0, true);
        Check.tellAll(x, 180);
        Check.due("FED: 0", 0, x.read(8));
        Check.due("till RESET", 0, x.read(8));
        Check.tellAll(x, 68);
        Check.due("CONVERTING it tells 1", 15, x.read(4));
        Check.dueDevice("it CONVERTS", x, 0, 6, 1);
    }

    private static void thermometerAlarm() {
        LoneWire x = new LoneWire();
        x.attach(THERMOMETER, 0, 30, 0, false);
        Check.tellAll(x, 78, 20, 256 - 10, 0x60);
        int[] heats = {319, 320, 335, 336, -144, -145, -160, -161, 0};
        int[] due = {0, 1, 1, 1, 0, 1, 1, 1, 0};
        for (int i = 0; i < heats.length; i++) {
            x.heat(0, heats[i]);
            Check.tellAll(x, 68);
            x.idle(7200);
            Check.dueDevice("ALARM at " + heats[i], x, 0, 5, due[i]);
        }
    }

    private static void switchStatus() {
        LoneWire x = new LoneWire();
        x.attach(SWITCH, 0, 30, 0, false);
        x.press(0, 0, true);
        Check.tellAll(x, 245);
        Check.dueDevice("its ALARM is over", x, 0, 5, 0);
        Check.dueBytes("PIN 0", x, 0xe1, 0xe1);
        x.read(3);
        x.press(0, 1, true);
        Check.dueDevice("ALARM again", x, 0, 5, 1);
        Check.due("as it was as it began", 0xe1 >> 3, x.read(5));
        Check.dueBytes("both PINS", x, 0xa5);
        x.press(0, 0, false);
        Check.dueBytes("PIN 1, as this one begins", x, 0xb4);
        Check.dueDevice("it TELLS on", x, 0, 3, 2);
    }

    private static void switchOutputs() {
        LoneWire x = new LoneWire();
        x.attach(SWITCH, 0, 30, 0, false);
        Check.tellAll(x, 90, 0xfe, 0x01);
        Check.dueDevice("bits 0, 1", x, 0, 8, 2);
        Check.dueBytes("170", x, 170, 255);
        Check.dueDevice("DEAF then", x, 0, 3, 0);
        Check.tellAll(x, 90, 0x01, 0xff);
        Check.dueDevice("no complement", x, 0, 8, 2);
        Check.dueDevice("DEAF", x, 0, 3, 0);
        Check.tellAll(x, 245);
        Check.dueBytes("OUTPUT 1", x, 0x78);
        Check.tellAll(x, 90, 1, 254);
        Check.tellAll(x, 245);
        Check.dueBytes("OUTPUT 0", x, 0xd2);
        Check.dueDevice("no ALARM by that", x, 0, 5, 0);
    }

    private static void memory() {
        LoneWire x = new LoneWire();
        x.attach(MEMORY, 0, 30, 0, false);
        Check.tellAll(x, 15, 0xfd, 1, 2, 3, 4);
        Check.dueDevice("TARGET modulo 16", x, 0, 7, 13);
        Check.dueBytes("CHECKSUM of those 40", x, x.checksum(0x04030201fdL, 40), 255);
        Check.dueDevice("DEAF then", x, 0, 3, 0);
        Check.tellAll(x, 170);
        Check.dueBytes("TARGET, PAD", x, 13, 1, 2, 3, 4, x.checksum(0x040302010dL, 40), 255);
        Check.tellAll(x, 85, 0xfd);
        Check.dueDevice("not TARGET: DEAF", x, 0, 3, 0);
        Check.due("nothing is put", 0, x.stored(0, 13));
        Check.tellAll(x, 85, 13);
        Check.dueBytes("170", x, 170, 255);
        Check.due("put", 1, x.stored(0, 13));
        Check.due("behind 15 comes 0", 4, x.stored(0, 0));
        Check.tellAll(x, 240, 0xfe);
        Check.dueBytes("four from 14 on", x, 2, 3, 4, 0, x.checksum(0x00040302L, 32), 255);
        Check.tellAll(x, 240, 9);
        Check.dueBytes("four from 9 on, and no more", x, 0, 0, 0, 0, 0, 255);
        Check.dueDevice("DEAF then", x, 0, 3, 0);
        Check.dueDevice("never an ALARM", x, 0, 5, 0);
    }

    private static void counter() {
        LoneWire x = new LoneWire();
        x.attach(COUNTER, 0, 30, 0, false);
        for (int i = 0; i < 70; i++) {
            x.pulse(0, 1000);
        }
        Check.tellAll(x, 66);
        x.pulse(0, 1);
        Check.dueBytes("as it was then", x, 70000 & 255, 70000 >> 8 & 255, 1, 0, x.checksum(70000, 32), 255);
        Check.dueDevice("DEAF then", x, 0, 3, 0);
        Check.tellAll(x, 77, 1, 0, 0, 0x80);
        Check.dueDevice("LIMIT 1", x, 0, 8, 1);
        Check.dueDevice("DEAF then", x, 0, 3, 0);
        Check.dueDevice("ALARM at PULSES only", x, 0, 5, 0);
        x.pulse(0, 1);
        Check.dueDevice("ALARM", x, 0, 5, 1);
        Check.tellAll(x, 83);
        Check.dueDevice("COUNT", x, 0, 7, 0);
        Check.dueDevice("LIMIT stays", x, 0, 8, 1);
        Check.dueDevice("no ALARM", x, 0, 5, 0);
        Check.dueDevice("DEAF", x, 0, 3, 0);
        Check.tellAll(x, 77, 0, 0, 0, 0x80);
        x.pulse(0, 1);
        Check.dueDevice("LIMIT 0: never", x, 0, 5, 0);
    }

    private static void choose105(LoneWire x, int device) {
        x.reset();
        x.write(105, 8);
        x.speed(1);
        Check.writeBytes(x, addressOf(x, device));
        x.idle(2000);
    }

    private static void deadLoses() {
        LoneWire x = new LoneWire();
        x.attach(THERMOMETER, 0, 30, 4, true);
        x.attach(MEMORY, 0, 30, 4, true);
        Check.tellAll(x, 78, 10, 5, 0x20);
        Check.tellAll(x, 72);
        Check.tellAll(x, 78, 11, 6, 0x60);
        Check.tellAll(x, 15, 3, 9, 8, 7, 6);
        Check.tellAll(x, 85, 3);
        x.idle(2000);
        x.strong(true);
        Check.tellAll(x, 68);
        x.idle(7200);
        Check.dueDevice("HEAT", x, 0, 7, 320);
        Check.dueDevice("ALARM", x, 0, 5, 1);
        choose105(x, 0);
        Check.dueDevice("MINE", x, 0, 12, 1);
        Check.dueDevice("OVERDRIVE", x, 0, 2, 1);
        // Too short for a RESET, so all stays: it is held LOW by many SLOTS of which none but the first has an EDGE.
        for (int i = 0; i < 60; i++) {
            x.slot(40, 0, 40);
        }
        for (int d = 0; d < 2; d++) {
            Check.dueDevice("DEAD", x, d, 3, 3);
            Check.dueDevice("CHARGE", x, d, 4, 0);
            Check.dueDevice("SPEED", x, d, 2, 0);
            Check.dueDevice("MINE", x, d, 12, 0);
        }
        Check.dueDevice("HEAT", x, 0, 7, 1360);
        Check.dueDevice("HIGH as SAVED", x, 0, 8, 10);
        Check.dueDevice("LOW as SAVED", x, 0, 9, 5);
        Check.dueDevice("FINE as SAVED", x, 0, 10, 1);
        Check.dueDevice("TARGET", x, 1, 7, 0);
        Check.dueDevice("PAD", x, 1, 8, 0);
        Check.due("bytes stay", 9, x.stored(1, 3));
        Check.dueDevice("no ALARM", x, 0, 5, 0);
    }

    private static void deadCounter() {
        LoneWire x = new LoneWire();
        x.attach(COUNTER, 0, 30, 0, true);
        Check.tellAll(x, 77, 5, 0, 0, 0);
        x.pulse(0, 6);
        Check.dueDevice("ALARM", x, 0, 5, 1);
        x.slot(1000, 0, 1000);
        x.slot(1001, 0, 1001);
        Check.dueDevice("DEAD", x, 0, 3, 3);
        Check.dueDevice("COUNT", x, 0, 7, 0);
        Check.dueDevice("LIMIT", x, 0, 8, 0);
        Check.dueDevice("no ALARM", x, 0, 5, 0);
    }
}
