import java.util.LinkedHashMap;
import java.util.Map;

/** All that can be seen of a LoneWire, to show that a call leaves it as it was. */
final class State {
    private static final int[] NUMBERS = {0, 1, 2, 3, 4, 5, 6, 7};

    private State() {
    }

    static Map<String, Long> of(LoneWire x) {
        Map<String, Long> all = new LinkedHashMap<>();
        for (int what = 0; what <= 8; what++) {
            all.put("count(" + what + ")", (long) x.count(what));
        }
        for (int device : NUMBERS) {
            putDevice(all, x, device);
        }
        putTrace(all, x);
        putSearch(all, x);
        putTimes(all, x);
        return all;
    }

    /** Whether both are the same; prints what is not. */
    static void dueSame(String what, Map<String, Long> before, Map<String, Long> after) {
        for (Map.Entry<String, Long> entry : before.entrySet()) {
            Check.due(what + " leaves " + entry.getKey(), entry.getValue(), after.get(entry.getKey()));
        }
        Check.due(what + ": as many as before", before.size(), after.size());
    }

    private static void putDevice(Map<String, Long> all, LoneWire x, int device) {
        try {
            x.device(device, 0);
        } catch (java.util.NoSuchElementException e) {
            all.put("device(" + device + ")", -1L);
            return;
        }
        for (int what = 0; what <= 12; what++) {
            all.put("device(" + device + ", " + what + ")", (long) x.device(device, what));
        }
        for (int k = 0; x.device(device, 0) == 35 && k < 16; k++) {
            all.put("stored(" + device + ", " + k + ")", (long) x.stored(device, k));
        }
        if (x.device(device, 0) == 40) {
            int was = x.heat(device, 0);
            x.heat(device, was);
            all.put("heat(" + device + ")", (long) was);
        }
        all.put("lasts(" + device + ")", (long) x.lasts(device));
        all.put("blame(" + device + ", 0)", (long) x.blame(device, 0));
        all.put("blame(" + device + ", 1)", (long) x.blame(device, 1));
    }

    private static void putTrace(Map<String, Long> all, LoneWire x) {
        for (int k = 0; k <= 32; k++) {
            for (int what = 0; what < 6; what++) {
                all.put("trace(" + k + ", " + what + ")", (long) x.trace(k, what));
            }
        }
    }

    private static void putSearch(Map<String, Long> all, LoneWire x) {
        all.put("forks()", x.forks());
        all.put("last()", (long) x.last());
        for (int k : NUMBERS) {
            all.put("found(" + k + ")", (long) x.found(k));
            all.put("branch(" + k + ")", (long) x.branch(k));
            for (int i = 0; i < 16; i++) {
                all.put("known(" + i + ", " + k + ")", (long) x.known(i, k));
            }
        }
        for (int i = 0; i < 16; i++) {
            all.put("measured(" + i + ")", (long) x.measured(i));
        }
    }

    private static void putTimes(Map<String, Long> all, LoneWire x) {
        for (int speed = 0; speed < 2; speed++) {
            for (int what : NUMBERS) {
                int was = x.time(speed, what, 1);
                x.time(speed, what, was);
                all.put("time(" + speed + ", " + what + ")", (long) was);
            }
        }
        boolean strongly = x.strong(false);
        x.strong(strongly);
        all.put("strong", strongly ? 1L : 0L);
    }
}
