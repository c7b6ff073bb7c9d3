import java.util.ArrayList;
import java.util.List;
import java.util.NoSuchElementException;
import java.util.Random;
import java.util.function.LongSupplier;

/** Random runs, the same on a LoneWire and on the Model: every answer is the same (promises 1 to 40). */
public final class RunsAgainstModelTest {
    private static final long NO_SUCH = Long.MIN_VALUE;
    private static final long CANT_BE = Long.MIN_VALUE + 1;
    private static final int[] FAMILIES = {40, 40, 58, 35, 29};
    private static final int[] COMMANDS = {51, 85, 204, 204, 204, 204, 240, 236, 60, 105, 165, 165, 7};
    private static final int[] KIND_COMMANDS = {
        68, 190, 78, 72, 184, 180, 1, 245, 90, 245, 90, 15, 170, 85, 240, 15, 66, 77, 83, 66
    };
    private static final int[] WORDS = {0, 255, 85, 170, 15, 254, 1, 3, 252, 127};

    private final Random random;
    private final LoneWire wire = new LoneWire();
    private final Model model = new Model();
    private final List<String> told = new ArrayList<>();
    private boolean wrong;

    private RunsAgainstModelTest(long seed) {
        random = new Random(seed);
    }

    public static void main(String[] args) {
        int runs = args.length > 0 ? Integer.parseInt(args[0]) : 300;
        long first = args.length > 1 ? Long.parseLong(args[1]) : 1;
        int failed = 0;
        for (long seed = first; seed < first + runs && failed < 3; seed++) {
            RunsAgainstModelTest run = new RunsAgainstModelTest(seed);
            run.go();
            if (run.wrong) {
                failed++;
                System.out.println("seed " + seed + ":");
                int from = Math.max(0, run.told.size() - 60);
                for (String line : run.told.subList(from, run.told.size())) {
                    System.out.println("  " + line);
                }
            }
        }
        if (failed > 0) {
            System.exit(1);
        }
    }

    private static long answer(LongSupplier call) {
        try {
            return call.getAsLong();
        } catch (NoSuchElementException e) {
            return NO_SUCH;
        } catch (IllegalArgumentException e) {
            return CANT_BE;
        }
    }

    private long same(String call, LongSupplier ours, LongSupplier theirs) {
        long got = answer(ours);
        long due = answer(theirs);
        told.add(call + " -> " + got + (got == due ? "" : ", due is " + due));
        wrong |= got != due;
        return got;
    }

    private int upTo(int n) {
        return random.nextInt(n + 1);
    }

    private int of(int[] all) {
        return all[random.nextInt(all.length)];
    }

    private static long num(boolean b) {
        return b ? 1 : 0;
    }

    private void go() {
        int devices = upTo(5);
        for (int i = 0; i < devices; i++) {
            attach();
        }
        boolean steady = random.nextInt(3) > 0;
        for (int i = 0; i < 110 && !wrong; i++) {
            int what = random.nextInt(100);
            if (what < 6) {
                who();
            } else if (what < 14) {
                outside();
            } else if (what < 20) {
                times(steady);
            } else if (what < 24) {
                runOut();
            } else if (what < 66) {
                talk();
            } else if (what < 80) {
                addresses();
            } else if (what < 92) {
                atOnce();
            } else {
                told();
            }
            look(upTo(7) == 0);
        }
        look(true);
    }

    /** A CONVERSION that may be too much for one that is FED, and what comes of it. */
    private void runOut() {
        same("speed(0)", () -> wire.speed(0), () -> model.speed(0));
        same("reset()", () -> num(wire.reset()), () -> num(model.reset()));
        write(204, 8);
        write(68, 8);
        int turns = upTo(4);
        for (int i = 0; i < turns; i++) {
            if (upTo(1) == 0) {
                idle(upTo(1300));
            } else {
                slot();
            }
            look(false);
        }
        if (upTo(1) == 0) {
            same("reset()", () -> num(wire.reset()), () -> num(model.reset()));
            write(of(COMMANDS), 8);
        }
    }

    private void idle(int us) {
        same("idle(" + us + ")", () -> wire.idle(us), () -> model.idle(us));
    }

    private void attach() {
        int family = upTo(30) == 0 ? upTo(60) : of(FAMILIES);
        int serial = upTo(3) == 0 ? random.nextInt() : upTo(6);
        int slow = upTo(30) == 0 ? upTo(80) : 15 + upTo(45);
        int fast = upTo(7);
        boolean fed = upTo(1) == 0;
        same("attach(" + family + ", " + serial + ", " + slow + ", " + fast + ", " + fed + ")",
            () -> wire.attach(family, serial, slow, fast, fed), () -> model.attach(family, serial, slow, fast, fed));
    }

    private void who() {
        if (upTo(2) > 0) {
            attach();
            return;
        }
        int d = upTo(8) - (upTo(20) == 0 ? 1 : 0);
        same("detach(" + d + ")", () -> wire.detach(d), () -> model.detach(d));
    }

    private void outside() {
        int d = upTo(5);
        switch (upTo(3)) {
            case 0 -> {
                int v = random.nextInt(3000) - 900;
                same("heat(" + d + ", " + v + ")", () -> wire.heat(d, v), () -> model.heat(d, v));
            }
            case 1 -> {
                int pin = upTo(8) == 0 ? upTo(4) - 2 : upTo(1);
                boolean is = random.nextBoolean();
                same("press(" + d + ", " + pin + ", " + is + ")",
                    () -> num(wire.press(d, pin, is)), () -> num(model.press(d, pin, is)));
            }
            default -> {
                int n = upTo(8) == 0 ? upTo(1200) - 20 : 1 + upTo(5);
                same("pulse(" + d + ", " + n + ")", () -> wire.pulse(d, n), () -> model.pulse(d, n));
            }
        }
    }

    private void times(boolean steady) {
        if (upTo(3) == 0) {
            int v = upTo(20) == 0 ? 2 : upTo(1);
            same("speed(" + v + ")", () -> wire.speed(v), () -> model.speed(v));
            return;
        }
        if (upTo(2) == 0) {
            boolean is = random.nextBoolean();
            same("strong(" + is + ")", () -> num(wire.strong(is)), () -> num(model.strong(is)));
            return;
        }
        if (steady) {
            return;
        }
        int s = upTo(1);
        int what = upTo(7);
        int v = upTo(2) == 0 ? upTo(1002) : 1 + upTo(what < 4 ? 70 : what == 5 ? 900 : 120);
        same("time(" + s + ", " + what + ", " + v + ")", () -> wire.time(s, what, v), () -> model.time(s, what, v));
    }

    private void talk() {
        switch (upTo(9)) {
            case 0 -> same("reset()", () -> num(wire.reset()), () -> num(model.reset()));
            case 1, 2, 3 -> converse();
            case 4 -> write(upTo(2) == 0 ? of(WORDS) : random.nextInt(), upTo(9));
            case 5 -> read(upTo(9));
            case 6 -> slot();
            case 7 -> {
                int us = upTo(2) == 0 ? upTo(100500) - 200 : upTo(1) == 0 ? upTo(2000) : upTo(100);
                idle(us);
            }
            default -> {
                slot();
                slot();
                slot();
            }
        }
    }

    private void slot() {
        int low = upTo(4) == 0 ? upTo(700) : upTo(1) == 0 ? 1 + upTo(60) : 40 + upTo(20);
        int length = upTo(10) == 0 ? upTo(2100) : low + upTo(upTo(2) == 0 ? 400 : 100);
        int sample = upTo(Math.max(1, length + 1)) - (upTo(30) == 0 ? 1 : 0);
        same("slot(" + low + ", " + sample + ", " + length + ")",
            () -> wire.slot(low, sample, length), () -> model.slot(low, sample, length));
    }

    private void write(int v, int n) {
        same("write(" + v + ", " + n + ")", () -> wire.write(v, n), () -> model.write(v, n));
    }

    private void read(int n) {
        same("read(" + n + ")", () -> wire.read(n), () -> model.read(n));
    }

    private void converse() {
        same("reset()", () -> num(wire.reset()), () -> num(model.reset()));
        int command = of(COMMANDS);
        write(command, 8);
        if (command == 85 || command == 105) {
            if (command == 105) {
                same("speed(1)", () -> wire.speed(1), () -> model.speed(1));
            }
            int i = upTo(3);
            for (int k = 0; k < 8; k++) {
                int at = k;
                write(Math.max(0, (int) answer(() -> wire.known(i, at))), 8);
            }
        }
        if (command == 60) {
            same("speed(1)", () -> wire.speed(1), () -> model.speed(1));
        }
        int kind = of(KIND_COMMANDS);
        write(kind, 8);
        int words = kind == 15 ? 5 : kind == 77 ? 4 : kind == 78 ? 3 : kind == 90 ? 2 : kind == 85 || kind == 240 ? 1 : 0;
        int lower = upTo(1) == 0 ? upTo(255) : of(WORDS);
        for (int i = 0; i < words; i++) {
            write(kind == 90 && i == 1 && upTo(4) > 0 ? ~lower : kind == 77 && i > 0 ? 0 : i == 0 ? lower : upTo(255), 8);
        }
        if (upTo(4) == 0) {
            outside();
        }
        int reads = upTo(6);
        for (int i = 0; i < reads; i++) {
            read(8);
        }
    }

    private void addresses() {
        boolean alarm = upTo(3) == 0;
        switch (upTo(9)) {
            case 0, 1, 2, 3 -> same("pass(" + alarm + ")", () -> wire.pass(alarm), () -> model.pass(alarm));
            case 4 -> same("anew()", wire::anew, model::anew);
            case 5 -> {
                int family = upTo(3) == 0 ? upTo(300) - 10 : of(FAMILIES);
                same("target(" + family + ")", () -> num(wire.target(family)), () -> num(model.target(family)));
            }
            case 6 -> same("leave()", wire::leave, model::leave);
            case 7 -> same("missing()", wire::missing, model::missing);
            default -> same("roll(" + alarm + ")", () -> wire.roll(alarm), () -> model.roll(alarm));
        }
    }

    private void atOnce() {
        int i = upTo(5) - (upTo(20) == 0 ? 1 : 0);
        int us = upTo(1) == 0 ? 7200 : upTo(20000) - 100;
        switch (upTo(5)) {
            case 0 -> same("measure(" + i + ", " + us + ")", () -> wire.measure(i, us), () -> model.measure(i, us));
            case 1 -> same("measureAll(" + us + ")", () -> wire.measureAll(us), () -> model.measureAll(us));
            case 2 -> same("look(" + i + ")", () -> wire.look(i), () -> model.look(i));
            case 3 -> {
                int target = upTo(300) - 20;
                int v = random.nextInt();
                same("store(" + i + ", " + target + ", " + v + ")",
                    () -> wire.store(i, target, v), () -> model.store(i, target, v));
            }
            case 4 -> same("roll(false)", () -> wire.roll(false), () -> model.roll(false));
            default -> same("raise()", () -> num(wire.raise()), () -> num(model.raise()));
        }
    }

    private void told() {
        int n = upTo(70) - 3;
        long v = random.nextLong();
        same("checksum(" + v + ", " + n + ")", () -> wire.checksum(v, n), () -> model.checksum(v, n));
        for (int s = -1; s <= 2; s++) {
            int speed = s;
            for (int w = -1; w <= 4; w++) {
                int what = w;
                same("limit(" + s + ", " + w + ", false)",
                    () -> wire.limit(speed, what, false), () -> model.limit(speed, what, false));
                same("limit(" + s + ", " + w + ", true)",
                    () -> wire.limit(speed, what, true), () -> model.limit(speed, what, true));
            }
            for (int d = -1; d <= 8; d++) {
                int device = d;
                same("blame(" + d + ", " + s + ")", () -> wire.blame(device, speed), () -> model.blame(device, speed));
            }
        }
        for (int i = -1; i <= 8; i++) {
            int one = i;
            int other = upTo(8);
            same("branch(" + i + ")", () -> wire.branch(one), () -> model.branch(one));
            same("parts(" + i + ", " + other + ")", () -> wire.parts(one, other), () -> model.parts(one, other));
        }
    }

    /** What can be seen without a change; all of it, or what changes most. */
    private void look(boolean all) {
        int before = told.size();
        for (int d = 0; d < 8; d++) {
            int at = d;
            if (answer(() -> wire.device(at, 0)) != NO_SUCH) {
                lookAtDevice(d);
            }
        }
        for (int w = 0; w <= 8; w++) {
            int what = w;
            same("count(" + w + ")", () -> wire.count(what), () -> model.count(what));
        }
        same("forks()", wire::forks, model::forks);
        same("last()", wire::last, model::last);
        lookAtSlots(all ? -1 : 0, all ? 33 : 3);
        if (all) {
            lookAtRest();
        }
        if (!wrong) {
            told.subList(before, told.size()).clear();
        } else {
            told.subList(before, told.size()).removeIf(line -> !line.contains("due is"));
        }
    }

    private void lookAtDevice(int d) {
        for (int w = -1; w <= 13; w++) {
            int what = w;
            same("device(" + d + ", " + w + ")", () -> wire.device(d, what), () -> model.device(d, what));
        }
        same("lasts(" + d + ")", () -> wire.lasts(d), () -> model.lasts(d));
    }

    private void lookAtSlots(int from, int to) {
        for (int i = from; i <= to; i++) {
            int at = i;
            for (int w = -1; w <= 6; w++) {
                int what = w;
                same("trace(" + i + ", " + w + ")", () -> wire.trace(at, what), () -> model.trace(at, what));
            }
        }
    }

    private void lookAtRest() {
        for (int i = -1; i <= 8; i++) {
            int at = i;
            for (int k = -1; k <= 16; k++) {
                int byteAt = k;
                same("stored(" + i + ", " + k + ")", () -> wire.stored(at, byteAt), () -> model.stored(at, byteAt));
            }
            same("device(" + i + ", 0)", () -> wire.device(at, 0), () -> model.device(at, 0));
            same("lasts(" + i + ")", () -> wire.lasts(at), () -> model.lasts(at));
            same("found(" + i + ")", () -> wire.found(at), () -> model.found(at));
        }
        same("count(-1)", () -> wire.count(-1), () -> model.count(-1));
        same("count(9)", () -> wire.count(9), () -> model.count(9));
        for (int i = -1; i <= 17; i++) {
            int at = i;
            same("measured(" + i + ")", () -> wire.measured(at), () -> model.measured(at));
            for (int k = -1; k <= 8; k++) {
                int byteAt = k;
                same("known(" + i + ", " + k + ")", () -> wire.known(at, byteAt), () -> model.known(at, byteAt));
            }
        }
    }
}
