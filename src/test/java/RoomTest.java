import java.lang.management.ManagementFactory;

/** The dearest calls make no objects, and odd arguments in odd states bring nothing but the document's exceptions. */
public final class RoomTest {
    private static final int[] ODD = {
        Integer.MIN_VALUE, -100001, -2, -1, 0, 1, 2, 3, 7, 8, 9, 16, 31, 32, 40, 255, 256, 480, 1000, 100001, Integer.MAX_VALUE
    };

    public static void main(String[] args) {
        dearestCalls();
        oddArguments();
        Check.end();
    }

    private static LoneWire full() {
        LoneWire x = new LoneWire();
        int[] families = {40, 58, 35, 29};
        for (int i = 0; i < 8; i++) {
            x.attach(families[i & 3], i * 0x1234567, 15 + i, 2 + i % 5, i % 3 == 0);
        }
        return x;
    }

    private static void dearestCalls() {
        LoneWire x = full();
        var threads = (com.sun.management.ThreadMXBean) ManagementFactory.getThreadMXBean();
        x.roll(false);
        x.measureAll(7200);
        long before = threads.getCurrentThreadAllocatedBytes();
        for (int i = 0; i < 100; i++) {
            x.roll(false);
            x.missing();
            x.measureAll(7200);
            x.measure(0, 100);
        }
        long made = threads.getCurrentThreadAllocatedBytes() - before;
        Check.due("bytes made in 400 calls, below 20000", true, made < 20000);
    }

    private static void oddArguments() {
        for (int a : ODD) {
            for (int b : ODD) {
                LoneWire empty = new LoneWire();
                LoneWire used = full();
                used.roll(false);
                callAll(empty, a, b);
                callAll(used, a, b);
                callAll(used, b, a);
            }
        }
    }

    private static void callAll(LoneWire x, int a, int b) {
        Runnable[] calls = {
            () -> x.attach(a, b, a, b, true), () -> x.attach(40, a, 30, b, false), () -> x.heat(a, b),
            () -> x.press(a, b, true), () -> x.device(a, b), () -> x.pulse(a, b), () -> x.stored(a, b),
            () -> x.speed(a), () -> x.time(a, b, a), () -> x.time(0, a, b), () -> x.slot(a, b, a), () -> x.slot(1, a, b),
            () -> x.trace(a, b), () -> x.reset(), () -> x.write(a, b), () -> x.read(a), () -> x.idle(a),
            () -> x.strong(a > b), () -> x.pass(a > b), () -> x.anew(), () -> x.target(a), () -> x.leave(),
            () -> x.found(a), () -> x.forks(), () -> x.last(), () -> x.known(a, b), () -> x.missing(),
            () -> x.measure(a, b), () -> x.measureAll(a), () -> x.measured(a), () -> x.look(a), () -> x.store(a, b, a),
            () -> x.raise(), () -> x.lasts(a), () -> x.branch(a), () -> x.parts(a, b), () -> x.limit(a, b, true),
            () -> x.blame(a, b), () -> x.checksum(a, b), () -> x.count(a), () -> x.detach(a)
        };
        for (Runnable call : calls) {
            try {
                call.run();
            } catch (IllegalArgumentException | java.util.NoSuchElementException e) {
                // The document's own.
                Check.due("thrown by LoneWire itself: " + e, true,
                    e.getStackTrace()[0].getClassName().startsWith("LoneWire"));
            }
        }
    }
}
