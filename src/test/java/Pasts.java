import java.util.function.Consumer;

/** Pasts of desks, each of some hundred calls at most, in which many calls have something to do. */
final class Pasts {
    private Pasts() { }

    /** Calls of both, one after the other. */
    static Consumer<RemoteDesk> then(Consumer<RemoteDesk> past, String name, int... a) {
        return past.andThen(d -> Calls.ask(d, name, a));
    }

    /**
     * At each place: VARIABLE 0 an EXPORTED object that leads to that of VARIABLE 1, VARIABLE 2 a STUB, VARIABLE 3 nothing.
     * TIME is 5, places 1 and 2 are not LINKED, and the latest CALL gave UNSENDABLE for name 1.
     */
    static void mixed(RemoteDesk d) {
        for (int c = 0; c < 4; c++) {
            d.offer(c, c, -1, c, 1, c);
            d.offer(c, 5, c, 3 - c, 5, 1);
            d.offer(c, 8 + c, -1, 0, 1, 0);
            d.prefer(c, (0x421 << c) & 4095);
        }
        d.annotate(0, 3);
        d.annotate(1, 0);
        for (int p = 0; p < 3; p++) {
            d.offer(4 + p, 0, -1, 1, 1, p);
            d.offer(4 + p, 1, 0, 2, 0, 3 - p);
            d.offer(4 + p, 9, -1, 3, 5, 1);
            d.make(p, 4, 0, 0);
            d.make(p, 4, 1, 1);
            d.put(p, 0, 0, 1);
            d.put(p, 0, 1, 70 + p);
            d.put(p, 1, 0, -p);
            d.bind(p, p, 0);
        }
        d.bind(1, 3, 1);
        d.bind(2, -1, 1);
        d.make(1, 2, 2, 3);
        d.let(1, 3, -1);
        for (int p = 0; p < 3; p++) {
            d.lookup(p, (p + 1) % 3, (p + 1) % 3, 2);
        }
        d.tick(5);
        d.call(0, 2, 3, 1, 3);
        d.link(1, 2, false);
    }

    /**
     * All VARIABLES and LABELS of all places hold EXPORTED objects whose REFS lead in a circle, there are 12 objects at
     * each place, and all LOADERS know names 0 and 11.
     */
    static void crowded(RemoteDesk d) {
        for (int name = 0; name < 12; name++) {
            d.offer(2, name, -1, 0, 1, 0);
            for (int p = 0; p < 3; p++) {
                d.offer(4 + p, name, name - 1, 3, 1, 0);
            }
        }
        for (int c = 0; c < 4; c++) {
            d.offer(c, 0, -1, 0, 1, 0);
            d.offer(c, 3, -1, 0, 1, 0);
        }
        for (int p = 0; p < 3; p++) {
            for (int loader = 0; loader < 4; loader++) {
                d.make(p, loader, 0, loader);
                d.make(p, loader, 11, loader);
            }
            for (int v = 0; v < 4; v++) {
                d.make(p, 4, v, v);
                d.bind(p, v, v);
            }
            for (int v = 0; v < 4; v++) {
                d.put(p, v, 0, v);
                d.put(p, v, 1, (v + 1) % 4);
            }
        }
    }

    /** All VARIABLES of all places hold STUBS, and each place has a LEASE on the one EXPORTED object of each. */
    static void stubs(RemoteDesk d) {
        for (int p = 0; p < 3; p++) {
            d.offer(4 + p, 0, -1, 3, 1, 0);
            d.make(p, 4, 0, 0);
            for (int label = 0; label < 4; label++) {
                d.bind(p, label, 0);
            }
        }
        for (int p = 0; p < 3; p++) {
            for (int v = 0; v < 4; v++) {
                d.lookup(p, (p + v) % 3, v, v);
            }
        }
    }
}
