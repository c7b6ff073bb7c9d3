import java.util.ArrayList;
import java.util.List;
import java.util.Map;
import java.util.NoSuchElementException;
import java.util.function.ToLongFunction;

/** Calls that are refused: each is answered as its promise says, and leaves all as it was. */
public final class RefusedTest {
    private static final long NO_SUCH = Long.MIN_VALUE;
    private static final long CANT_BE = Long.MIN_VALUE + 1;
    private static final long NONE = LoneWire.NONE;
    private static final int LEAST = Integer.MIN_VALUE;
    private static final int MOST = Integer.MAX_VALUE;

    private record Refused(String name, long due, ToLongFunction<LoneWire> call) {
    }

    public static void main(String[] args) {
        List<Refused> ofAny = new ArrayList<>();
        addOfAny(ofAny);
        dueRefused("nobody there", new LoneWire(), ofAny);
        dueRefused("nobody there", new LoneWire(), ofAllNumbers());
        dueRefused("four there", four(), ofAny);
        dueRefused("four there", four(), ofFour());
        dueRefused("eight there", eight(), ofEight());
        dueTalkGoesOn();
        Check.end();
    }

    private static void add(List<Refused> all, String name, long due, ToLongFunction<LoneWire> call) {
        all.add(new Refused(name, due, call));
    }

    private static long answer(Refused refused, LoneWire x) {
        try {
            return refused.call.applyAsLong(x);
        } catch (NoSuchElementException e) {
            return NO_SUCH;
        } catch (IllegalArgumentException e) {
            return CANT_BE;
        }
    }

    private static void dueRefused(String scene, LoneWire x, List<Refused> all) {
        Map<String, Long> before = State.of(x);
        for (Refused refused : all) {
            Check.due(scene + ": " + refused.name, refused.due, answer(refused, x));
            State.dueSame(scene + ": " + refused.name, before, State.of(x));
        }
    }

    /** Refused whoever is there. */
    private static void addOfAny(List<Refused> all) {
        addAttach(all);
        addDevices(all, -1, 8, LEAST, MOST);
        addLine(all);
        addPlaces(all);
        addTold(all);
    }

    private static void addAttach(List<Refused> all) {
        for (int family : new int[] {LEAST, -1, 0, 28, 30, 34, 36, 39, 41, 57, 59, 40 + 256, MOST}) {
            add(all, "attach FAMILY " + family, CANT_BE, x -> x.attach(family, 77, 30, 0, false));
        }
        for (int serial : new int[] {-1, LEAST}) {
            add(all, "attach SERIAL " + serial, CANT_BE, x -> x.attach(40, serial, 30, 0, false));
        }
        for (int slow : new int[] {LEAST, -15, 0, 14, 61, MOST}) {
            add(all, "attach SLOW " + slow, CANT_BE, x -> x.attach(40, 77, slow, 0, false));
        }
        for (int fast : new int[] {LEAST, -2, -1, 1, 7, MOST}) {
            add(all, "attach FAST " + fast, CANT_BE, x -> x.attach(40, 77, 30, fast, false));
        }
    }

    private static void addDevices(List<Refused> all, int... devices) {
        for (int d : devices) {
            add(all, "detach(" + d + ")", NO_SUCH, x -> x.detach(d));
            add(all, "heat(" + d + ")", NO_SUCH, x -> x.heat(d, 0));
            add(all, "heat(" + d + ", 2001)", NO_SUCH, x -> x.heat(d, 2001));
            add(all, "press(" + d + ")", NO_SUCH, x -> x.press(d, 0, true) ? 1 : 0);
            add(all, "press(" + d + ", 2)", NO_SUCH, x -> x.press(d, 2, true) ? 1 : 0);
            add(all, "device(" + d + ", 0)", NO_SUCH, x -> x.device(d, 0));
            add(all, "device(" + d + ", 13)", NO_SUCH, x -> x.device(d, 13));
            add(all, "pulse(" + d + ")", NO_SUCH, x -> x.pulse(d, 1));
            add(all, "pulse(" + d + ", 0)", NO_SUCH, x -> x.pulse(d, 0));
            add(all, "stored(" + d + ")", NO_SUCH, x -> x.stored(d, 0));
            add(all, "stored(" + d + ", 16)", NO_SUCH, x -> x.stored(d, 16));
            add(all, "lasts(" + d + ")", NO_SUCH, x -> x.lasts(d));
            add(all, "blame(" + d + ", 0)", NO_SUCH, x -> x.blame(d, 0));
            add(all, "blame(" + d + ", 2)", NO_SUCH, x -> x.blame(d, 2));
            add(all, "parts(" + d + ", 0)", NONE, x -> x.parts(d, 0));
            add(all, "parts(0, " + d + ")", NONE, x -> x.parts(0, d));
            add(all, "parts(" + d + ", the same)", NONE, x -> x.parts(d, d));
        }
    }

    private static void addLine(List<Refused> all) {
        for (int v : new int[] {LEAST, -1, 2, MOST}) {
            add(all, "speed(" + v + ")", NONE, x -> x.speed(v));
            add(all, "time(" + v + ", 0, 5)", NONE, x -> x.time(v, 0, 5));
        }
        for (int v : new int[] {LEAST, -1, 0, 1001, MOST}) {
            for (int what = 0; what < 8; what++) {
                int at = what;
                add(all, "time(0, " + what + ", " + v + ")", NONE, x -> x.time(0, at, v));
                add(all, "time(1, " + what + ", " + v + ")", NONE, x -> x.time(1, at, v));
            }
        }
        for (int what : new int[] {LEAST, -1, 8, MOST}) {
            add(all, "time(0, " + what + ", 5)", NONE, x -> x.time(0, what, 5));
            add(all, "time(1, " + what + ", 5)", NONE, x -> x.time(1, what, 5));
        }
        int[][] slots = {
            {0, 0, 10}, {-1, 0, 10}, {LEAST, 0, 10}, {11, 0, 10}, {1, 0, 0}, {1, 0, -1}, {1, 0, 2001}, {2001, 0, 2001},
            {1, 0, MOST}, {MOST, 0, MOST}, {5, -1, 10}, {5, LEAST, 10}, {5, 11, 10}, {5, MOST, 10}, {1, 2001, 2000}
        };
        for (int[] s : slots) {
            add(all, "slot(" + s[0] + ", " + s[1] + ", " + s[2] + ")", NONE, x -> x.slot(s[0], s[1], s[2]));
        }
        for (int n : new int[] {LEAST, -1, 9, MOST}) {
            add(all, "write(0, " + n + ")", NONE, x -> x.write(0, n));
            add(all, "read(" + n + ")", NONE, x -> x.read(n));
        }
        for (int us : new int[] {LEAST, -1, 100001, MOST}) {
            add(all, "idle(" + us + ")", NONE, x -> x.idle(us));
            add(all, "measure(0, " + us + ")", NONE, x -> x.measure(0, us));
            add(all, "measureAll(" + us + ")", NONE, x -> x.measureAll(us));
        }
    }

    private static void addPlaces(List<Refused> all) {
        for (int family : new int[] {LEAST, -1, 256, MOST}) {
            add(all, "target(" + family + ")", 0, x -> x.target(family) ? 1 : 0);
            add(all, "store(0, " + family + ", 1)", NONE, x -> x.store(0, family, 1));
        }
        for (int k : new int[] {LEAST, -1, 8, MOST}) {
            add(all, "found(" + k + ")", NONE, x -> x.found(k));
            add(all, "known(0, " + k + ")", NONE, x -> x.known(0, k));
            add(all, "branch(" + k + ")", NONE, x -> x.branch(k));
        }
        for (int i : new int[] {LEAST, -1, 4, 8, 16, 17, MOST}) {
            add(all, "known(" + i + ", 0)", NONE, x -> x.known(i, 0));
            add(all, "measure(" + i + ", 0)", NONE, x -> x.measure(i, 0));
            add(all, "measured(" + i + ")", NONE, x -> x.measured(i));
            add(all, "look(" + i + ")", NONE, x -> x.look(i));
            add(all, "store(" + i + ", 0, 1)", NONE, x -> x.store(i, 0, 1));
        }
        for (int k : new int[] {LEAST, -1, 32, 33, MOST}) {
            add(all, "trace(" + k + ", 0)", NONE, x -> x.trace(k, 0));
        }
        for (int what : new int[] {LEAST, -1, 6, MOST}) {
            add(all, "trace(0, " + what + ")", NONE, x -> x.trace(0, what));
        }
    }

    private static void addTold(List<Refused> all) {
        for (int n : new int[] {LEAST, -1, 65, MOST}) {
            add(all, "checksum(1, " + n + ")", NONE, x -> x.checksum(1, n));
        }
        for (int what : new int[] {LEAST, -1, 9, MOST}) {
            add(all, "count(" + what + ")", NONE, x -> x.count(what));
        }
        for (int what : new int[] {LEAST, -1, 4, MOST}) {
            add(all, "limit(0, " + what + ", true)", NONE, x -> x.limit(0, what, true));
            add(all, "limit(1, " + what + ", false)", NONE, x -> x.limit(1, what, false));
        }
        for (int speed : new int[] {LEAST, -1, 2, MOST}) {
            add(all, "limit(" + speed + ", 0, true)", NONE, x -> x.limit(speed, 0, true));
        }
    }

    /** With nobody there, nothing KNOWN, nothing traced. */
    private static List<Refused> ofAllNumbers() {
        List<Refused> all = new ArrayList<>();
        addDevices(all, 0, 1, 2, 3, 4, 5, 6, 7);
        for (int k = 0; k < 32; k++) {
            int at = k;
            add(all, "trace(" + k + ", 0)", NONE, x -> x.trace(at, 0));
        }
        for (int i = 0; i < 16; i++) {
            int at = i;
            add(all, "known(" + i + ", 0)", NONE, x -> x.known(at, 0));
            add(all, "measure(" + i + ", 0)", NONE, x -> x.measure(at, 0));
            add(all, "measured(" + i + ")", NONE, x -> x.measured(at));
            add(all, "look(" + i + ")", NONE, x -> x.look(at));
            add(all, "store(" + i + ", 0, 1)", NONE, x -> x.store(at, 0, 1));
        }
        for (int what = 0; what < 4; what++) {
            int at = what;
            add(all, "limit(0, " + what + ", true)", NONE, x -> x.limit(0, at, true));
            add(all, "limit(1, " + what + ", false)", NONE, x -> x.limit(1, at, false));
        }
        add(all, "branch(0)", NONE, x -> x.branch(0));
        add(all, "missing()", 0, LoneWire::missing);
        return all;
    }

    /** A THERMOMETER, a SWITCH, a MEMORY, a COUNTER; KNOWN, MEASURED; one of them in the midst of telling. */
    private static LoneWire four() {
        LoneWire x = new LoneWire();
        x.attach(40, 1, 20, 3, true);
        x.attach(58, 2, 30, 0, false);
        x.attach(35, 3, 40, 0, false);
        x.attach(29, 4, 50, 5, true);
        x.roll(false);
        x.idle(2000);
        x.measureAll(7200);
        x.press(1, 0, true);
        x.pulse(3, 5);
        x.store(3, 6, 0x12345678);
        x.strong(true);
        x.pass(false);
        x.pass(false);
        Check.due("four: KNOWN", 4, x.count(7));
        Check.due("four: MEASURED", 320, x.measured(0));
        return x;
    }

    private static List<Refused> ofFour() {
        List<Refused> all = new ArrayList<>();
        addDevices(all, 4, 5, 6, 7);
        int[] serials = {1, 2, 3, 4};
        int[] families = {40, 58, 35, 29};
        for (int d = 0; d < 4; d++) {
            int at = d;
            int family = families[d];
            add(all, "attach " + family + " again", CANT_BE, x -> x.attach(family, serials[at], 33, 2, true));
            add(all, "device(" + d + ", 13)", NONE, x -> x.device(at, 13));
            add(all, "device(" + d + ", -1)", NONE, x -> x.device(at, -1));
            add(all, "blame(" + d + ", 2)", NONE, x -> x.blame(at, 2));
            add(all, "blame(" + d + ", -1)", NONE, x -> x.blame(at, -1));
            add(all, "parts(" + d + ", the same)", NONE, x -> x.parts(at, at));
            if (family != 40) {
                add(all, "heat(" + d + ")", CANT_BE, x -> x.heat(at, 0));
                add(all, "lasts(" + d + ")", NONE, x -> x.lasts(at));
            }
            if (family != 58) {
                add(all, "press(" + d + ")", CANT_BE, x -> x.press(at, 0, true) ? 1 : 0);
            }
            if (family != 35) {
                add(all, "stored(" + d + ")", CANT_BE, x -> x.stored(at, 0));
            }
            if (family != 29) {
                add(all, "pulse(" + d + ")", CANT_BE, x -> x.pulse(at, 1));
            }
        }
        addOwnKind(all);
        return all;
    }

    /** The right KIND, but it can't be. */
    private static void addOwnKind(List<Refused> all) {
        for (int v : new int[] {LEAST, -881, 2001, MOST}) {
            add(all, "heat(0, " + v + ")", CANT_BE, x -> x.heat(0, v));
        }
        for (int pin : new int[] {LEAST, -1, 2, MOST}) {
            add(all, "press(1, " + pin + ")", CANT_BE, x -> x.press(1, pin, true) ? 1 : 0);
        }
        for (int k : new int[] {LEAST, -1, 16, MOST}) {
            add(all, "stored(2, " + k + ")", CANT_BE, x -> x.stored(2, k));
        }
        for (int n : new int[] {LEAST, -1, 0, 1001, MOST}) {
            add(all, "pulse(3, " + n + ")", CANT_BE, x -> x.pulse(3, n));
        }
        add(all, "blame(1, 1)", NONE, x -> x.blame(1, 1));
        add(all, "blame(2, 1)", NONE, x -> x.blame(2, 1));
    }

    private static LoneWire eight() {
        LoneWire x = new LoneWire();
        for (int i = 0; i < 8; i++) {
            x.attach(29, i, 30, 0, false);
        }
        return x;
    }

    /** A ninth is NONE, but what can't be throws ahead of that. */
    private static List<Refused> ofEight() {
        List<Refused> all = new ArrayList<>();
        addAttach(all);
        for (int family : new int[] {40, 58, 35}) {
            add(all, "a ninth of " + family, NONE, x -> x.attach(family, 0, 30, 0, false));
        }
        add(all, "a ninth COUNTER", NONE, x -> x.attach(29, 8, 15, 2, true));
        for (int serial = 0; serial < 8; serial++) {
            int at = serial;
            add(all, "one that is there", CANT_BE, x -> x.attach(29, at, 30, 0, false));
        }
        return all;
    }

    /** What a DEVICE hears and tells bit by bit, with and without refused calls between. */
    private static void dueTalkGoesOn() {
        LoneWire plain = four();
        LoneWire disturbed = four();
        List<Refused> refused = new ArrayList<>();
        addOfAny(refused);
        refused.addAll(ofFour());
        List<ToLongFunction<LoneWire>> talk = talk();
        for (int i = 0; i < talk.size(); i++) {
            Check.due("step " + i + " of the talk", talk.get(i).applyAsLong(plain), talk.get(i).applyAsLong(disturbed));
            for (Refused r : refused) {
                answer(r, disturbed);
            }
        }
        State.dueSame("a talk with refused calls", State.of(plain), State.of(disturbed));
    }

    private static List<ToLongFunction<LoneWire>> talk() {
        List<ToLongFunction<LoneWire>> all = new ArrayList<>();
        all.add(x -> x.reset() ? 1 : 0);
        addBits(all, 51, 8);
        for (int i = 0; i < 70; i++) {
            all.add(x -> x.read(1));
        }
        // In the midst of telling a PRESENCE, a CONVERSION, a search.
        all.add(x -> x.slot(480, 500, 530));
        all.add(x -> x.slot(10, 20, 30));
        all.add(x -> x.reset() ? 1 : 0);
        addBits(all, 204, 8);
        addBits(all, 68, 8);
        all.add(x -> x.idle(100));
        all.add(x -> x.read(3));
        all.add(x -> x.pass(false));
        all.add(x -> x.pass(true));
        all.add(x -> x.target(35) ? 1 : 0);
        all.add(x -> x.pass(false));
        all.add(x -> x.leave());
        all.add(x -> x.pass(false));
        all.add(x -> x.raise() ? 1 : 0);
        all.add(x -> x.read(5));
        return all;
    }

    private static void addBits(List<ToLongFunction<LoneWire>> all, int v, int n) {
        for (int i = 0; i < n; i++) {
            int bit = v >> i & 1;
            all.add(x -> x.write(bit, 1));
        }
    }
}
