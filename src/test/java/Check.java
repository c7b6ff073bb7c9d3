import java.util.NoSuchElementException;

/** What the tests share: answers that are due, and the ways of the host that many of them need. */
final class Check {
    private static int wrong = 0;

    private Check() {
    }

    static void due(String what, long want, long got) {
        if (want != got) {
            wrong++;
            System.out.println(what + ": answered " + got + ", due is " + want);
        }
    }

    static void due(String what, boolean want, boolean got) {
        due(what, want ? 1 : 0, got ? 1 : 0);
    }

    static void noSuch(String what, Runnable call) {
        due(what + " throws NoSuchElementException", "NoSuchElementException".hashCode(), thrownBy(call).hashCode());
    }

    static void cantBe(String what, Runnable call) {
        due(what + " throws IllegalArgumentException", "IllegalArgumentException".hashCode(), thrownBy(call).hashCode());
    }

    private static String thrownBy(Runnable call) {
        try {
            call.run();
            return "nothing";
        } catch (NoSuchElementException | IllegalArgumentException e) {
            return e.getClass().getSimpleName();
        }
    }

    static void end() {
        if (wrong > 0) {
            System.out.println(wrong + " answers are not as due");
            System.exit(1);
        }
    }

    /** CHECKSUM, told once more: of bits as the document has them. */
    static int checksum(long v, int n) {
        int x = 0;
        for (int i = 0; i < n; i++) {
            boolean f = (x & 1) != (v >>> i & 1);
            x = f ? x / 2 ^ 140 : x / 2;
        }
        return x;
    }

    /** Takes so much CHARGE of one that is FED and DEAF, full or not: LOW in each US, and no RESET at SPEED 0. */
    static void drain(LoneWire x, int us) {
        for (int left = us; left > 0; left -= 400) {
            int low = Math.min(left, 400);
            x.slot(low, 0, low);
        }
    }

    /** RESET, 204, then these bytes. */
    static void tellAll(LoneWire x, int... bytes) {
        x.reset();
        x.write(204, 8);
        writeBytes(x, bytes);
    }

    static void writeBytes(LoneWire x, int... bytes) {
        for (int b : bytes) {
            x.write(b, 8);
        }
    }

    /** Each byte that is due, one after the other. */
    static void dueBytes(String what, LoneWire x, int... bytes) {
        for (int i = 0; i < bytes.length; i++) {
            due(what + ", byte " + i, bytes[i], x.read(8));
        }
    }

    static void dueDevice(String what, LoneWire x, int device, int property, int want) {
        due(what + ": device(" + device + ", " + property + ")", want, x.device(device, property));
    }
}
