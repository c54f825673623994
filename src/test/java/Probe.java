import java.util.Arrays;
import java.util.function.Consumer;

/**
 * All that calls can tell of a desk with a given past. Much of it shows only when it is used up (a DEFINITION when it is
 * LOADED, a link when it is cut), so each part is asked on a desk of its own, which also keeps each below 512 calls.
 */
final class Probe {
    private final Consumer<RemoteDesk> past;
    private long[] told = new long[4096];
    private int count = 0;

    private Probe(Consumer<RemoteDesk> past) {
        this.past = past;
    }

    static long[] tell(Consumer<RemoteDesk> past) {
        Probe probe = new Probe(past);
        probe.sights();
        probe.knownClasses();
        probe.definitionsThere();
        for (int at = 0; at < 7; at++) {
            for (int name = 0; name < 12; name++) {
                probe.definition(at, name);
            }
        }
        for (int p = 0; p < 3; p++) {
            for (int codebase = 0; codebase < 4; codebase++) {
                probe.preferred(p, codebase);
                probe.noted(p, codebase);
            }
            probe.annotation(p);
        }
        probe.linksAndLabels();
        probe.staying();
        probe.times();
        return Arrays.copyOf(probe.told, probe.count);
    }

    private RemoteDesk desk() {
        RemoteDesk d = new RemoteDesk();
        past.accept(d);
        return d;
    }

    private void ask(RemoteDesk d, String name, int... a) {
        if (count == told.length) {
            told = Arrays.copyOf(told, 2 * count);
        }
        told[count] = Calls.ask(d, name, a);
        count++;
    }

    private void sights() {
        RemoteDesk d = desk();
        ask(d, "fault", 0);
        ask(d, "fault", 1);
        ask(d, "tick", 0);
        for (int p = 0; p < 3; p++) {
            for (int what = 0; what < 4; what++) {
                ask(d, "state", p, what);
            }
            for (int v = 0; v < 4; v++) {
                ask(d, "digest", p, v);
                for (int what = 0; what < 7; what++) {
                    ask(d, "look", p, v, 0, 0, what);
                }
            }
        }
        leases(d, 6);
    }

    private void leases(RemoteDesk d, int tickets) {
        for (int p = 0; p < 3; p++) {
            for (int q = 0; q < 3; q++) {
                for (int ticket = 1; ticket <= tickets; ticket++) {
                    ask(d, "lease", q, ticket, p);
                }
            }
        }
    }

    private void knownClasses() {
        for (int p = 0; p < 3; p++) {
            for (int loader = 0; loader < 5; loader++) {
                RemoteDesk d = desk();
                for (int name = 0; name < 12; name++) {
                    for (int what = 0; what < 6; what++) {
                        ask(d, "known", p, loader, name, what);
                    }
                }
            }
        }
    }

    private void definitionsThere() {
        RemoteDesk d = desk();
        for (int at = 0; at < 7; at++) {
            for (int name = 0; name < 12; name++) {
                ask(d, "withdraw", at, name);
            }
        }
    }

    /** Its PARENT is made to come from the place, so that what is seen is of this DEFINITION alone. */
    private void definition(int at, int name) {
        RemoteDesk d = desk();
        int p = at < 4 ? 2 : at - 4;
        int loader = at < 4 ? at : 4;
        for (int other = 0; other < 12; other++) {
            if (other != name) {
                d.offer(4 + p, other, -1, 0, 1, 0);
            }
        }
        if (at < 4) {
            d.withdraw(4 + p, name);
            d.prefer(at, 0);
        }
        ask(d, "make", p, loader, name, 0);
        for (int what = 0; what < 6; what++) {
            ask(d, "known", p, loader, name, what);
        }
    }

    private void preferred(int p, int codebase) {
        RemoteDesk d = desk();
        whoDefines(d, p, codebase);
    }

    /** Shows the set that was noted before, or that none was. */
    private void noted(int p, int codebase) {
        RemoteDesk d = desk();
        d.prefer(codebase, 0x96a);
        whoDefines(d, p, codebase);
    }

    private void whoDefines(RemoteDesk d, int p, int codebase) {
        for (int name = 0; name < 12; name++) {
            d.offer(4 + p, name, -1, 0, 1, 0);
            d.offer(codebase, name, -1, 0, 1, 0);
        }
        for (int name = 0; name < 12; name++) {
            ask(d, "make", p, codebase, name, 0);
            ask(d, "known", p, codebase, name, 0);
        }
    }

    /** A CALL to the own place gives a copy by the LOADER that the ANNOTATION tells. */
    private void annotation(int p) {
        RemoteDesk d = desk();
        for (int i = 0; i < 4; i++) {
            d.unbind(p, i);
            d.let(p, i, -1);
        }
        ask(d, "collect", p);
        ask(d, "collect", p);
        d.offer(4 + p, 7, -1, 0, 1, 0);
        ask(d, "make", p, 4, 7, 0);
        ask(d, "make", p, 4, 7, 1);
        d.withdraw(4 + p, 7);
        for (int codebase = 0; codebase < 4; codebase++) {
            d.offer(codebase, 7, -1, 0, 1, 1);
        }
        d.bind(p, 0, 0);
        ask(d, "lookup", p, p, 0, 2);
        ask(d, "call", p, 2, 3, 1, 3);
        ask(d, "look", p, 3, 0, 0, 4);
    }

    private void linksAndLabels() {
        RemoteDesk d = desk();
        for (int p = 0; p < 3; p++) {
            ask(d, "link", p, (p + 1) % 3, 1);
            d.let(p, 3, -1);
            ask(d, "collect", p);
            for (int label = 0; label < 4; label++) {
                ask(d, "lookup", p, p, label, 3);
                ask(d, "look", p, 3, 0, 0, 5);
                d.let(p, 3, -1);
                ask(d, "collect", p);
                ask(d, "unbind", p, label);
            }
        }
    }

    private void staying() {
        RemoteDesk d = desk();
        for (int p = 0; p < 3; p++) {
            ask(d, "collect", p);
            ask(d, "state", p, 0);
            leases(d, 6);
        }
    }

    private void times() {
        RemoteDesk d = desk();
        for (int i = 0; i < 14; i++) {
            ask(d, "tick", 1);
            leases(d, 2);
        }
    }
}
