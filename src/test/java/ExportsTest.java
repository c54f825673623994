/** Promises 10 to 14, 21 and 22: exported objects, LABELS, links, LEASES and counts. */
public final class ExportsTest {
    private static final Due due = new Due();

    public static void main(String[] args) {
        promise10();
        promise11();
        promise12();
        promise13();
        promise13Order();
        promise14();
        promise21();
        promise22();
        due.close();
    }

    /** All places have name 0 (a REF and a NUMBER); VARIABLES 0 and 1 of each hold an object of it. */
    private static RemoteDesk desk() {
        RemoteDesk d = new RemoteDesk();
        for (int p = 0; p < 3; p++) {
            d.offer(4 + p, 0, -1, 1, 1, 0);
            d.make(p, 4, 0, 0);
            d.make(p, 4, 0, 1);
        }
        return d;
    }

    private static void promise10() {
        RemoteDesk d = desk();
        due.is("10: label -2", d.bind(0, -2, 0), RemoteDesk.BAD);
        due.is("10: label 4", d.bind(0, 4, 0), RemoteDesk.BAD);
        due.is("10: place -1", d.bind(-1, 0, 0), RemoteDesk.BAD);
        due.is("10: place 3", d.bind(3, 0, 0), RemoteDesk.BAD);
        due.is("10: v -1", d.bind(0, 0, -1), RemoteDesk.BAD);
        due.is("10: v 4", d.bind(0, 0, 4), RemoteDesk.BAD);
        due.is("10: nothing", d.bind(0, 0, 2), RemoteDesk.BAD);
        due.is("10: no TICKET was given", d.state(0, 2), 0);
        due.is("10: first", d.bind(0, 3, 0), 1);
        due.is("10: again, the same TICKET", d.bind(0, 1, 0), 1);
        due.is("10: both LABELS hold it", d.lookup(0, 0, 3, 2), RemoteDesk.OK);
        due.is("10: both LABELS hold it", d.lookup(0, 0, 1, 3), RemoteDesk.OK);
        due.is("10: a STUB", d.bind(0, 0, 2), RemoteDesk.BAD);
        due.is("10: without a LABEL", d.bind(0, -1, 1), 2);
        due.is("10: no LABEL holds it", d.lookup(0, 0, 0, 2), RemoteDesk.NOSUCH);
        due.is("10: over another", d.bind(0, 3, 1), 2);
        due.is("10: so the LABEL holds this", d.lookup(0, 0, 3, 2), RemoteDesk.OK);
        due.is("10: so the LABEL holds this", d.look(0, 2, 0, 0, 5), 2);
        due.is("10: the former is EXPORTED still", d.state(0, 3), 2);
        due.is("10: TICKETS are of each place", d.bind(2, 0, 0), 1);
    }

    private static void promise11() {
        RemoteDesk d = desk();
        due.is("11: holds nothing", d.unbind(0, 0), false);
        d.bind(0, 0, 0);
        due.is("11: another LABEL", d.unbind(0, 1), false);
        due.is("11: another place", d.unbind(1, 0), false);
        due.is("11: label -1", d.unbind(0, -1), false);
        due.is("11: label 4", d.unbind(0, 4), false);
        due.is("11: place -1", d.unbind(-1, 0), false);
        due.is("11: place 3", d.unbind(3, 0), false);
        due.is("11: unbind", d.unbind(0, 0), true);
        due.is("11: it holds nothing", d.lookup(1, 0, 0, 3), RemoteDesk.NOSUCH);
        due.is("11: twice", d.unbind(0, 0), false);
        due.is("11: the object is EXPORTED still", d.look(0, 0, 0, 0, 5), 1);
    }

    private static void promise12() {
        RemoteDesk d = desk();
        due.is("12: not EXPORTED", d.retire(0, 0), false);
        d.bind(0, 0, 0);
        d.lookup(1, 0, 0, 2);
        d.lookup(2, 0, 0, 2);
        due.is("12: nothing", d.retire(0, 3), false);
        due.is("12: a STUB", d.retire(1, 2), false);
        due.is("12: v -1", d.retire(0, -1), false);
        due.is("12: v 4", d.retire(0, 4), false);
        due.is("12: place -1", d.retire(-1, 0), false);
        due.is("12: place 3", d.retire(3, 0), false);
        d.lookup(0, 0, 0, 2);
        due.is("12: there are LEASES", d.lease(0, 1, 1), 10);
        due.is("12: also of its own place", d.lease(0, 1, 0), 10);
        due.is("12: retire", d.retire(0, 0), true);
        due.is("12: twice", d.retire(0, 0), false);
        due.is("12: LEASES are gone", d.lease(0, 1, 1), RemoteDesk.BAD);
        due.is("12: a LABEL that holds it", d.lookup(1, 0, 0, 3), RemoteDesk.NOSUCH);
        due.is("12: but it does hold it", d.unbind(0, 0), true);
        due.is("12: a call finds none", d.call(1, 2, 3, 3, 3), RemoteDesk.NOSUCH);
        due.is("12: EXPORTED again it has a new TICKET", d.bind(0, 0, 0), 2);
        due.is("12: without LEASES", d.lease(0, 2, 0), RemoteDesk.BAD);
        due.is("12: without LEASES", d.lease(0, 2, 1), RemoteDesk.BAD);
        due.is("12: without LEASES", d.lease(0, 2, 2), RemoteDesk.BAD);
        d.tick(8);
        due.is("12: the old STUBS RENEW none", d.lease(0, 2, 1), RemoteDesk.BAD);
        due.is("12: the old STUB finds none", d.call(1, 2, 3, 3, 3), RemoteDesk.NOSUCH);
    }

    private static void promise13() {
        RemoteDesk d = desk();
        d.bind(0, 2, 0);
        int[][] wrong = {{-1, 0, 2, 0}, {3, 0, 2, 0}, {1, -1, 2, 0}, {1, 3, 2, 0}, {1, 0, -1, 0}, {1, 0, 4, 0}, {1, 0, 2, -1}, {1, 0, 2, 4}};
        for (int[] w : wrong) {
            due.is("13: a wrong number", d.lookup(w[0], w[1], w[2], w[3]), RemoteDesk.BAD);
        }
        due.is("13: nothing was made", d.state(1, 0), 2);
        due.is("13: lookup", d.lookup(1, 0, 2, 3), RemoteDesk.OK);
        due.is("13: a STUB", d.look(1, 3, 0, 0, 2), 2);
        due.is("13: of place 0", d.look(1, 3, 0, 0, 6), 0);
        due.is("13: with its TICKET", d.look(1, 3, 0, 0, 5), 1);
        due.is("13: RENEWED at once", d.lease(0, 1, 1), 10);
        due.is("13: at its own place", d.lookup(0, 0, 2, 3), RemoteDesk.OK);
        due.is("13: a STUB, too", d.look(0, 3, 0, 0, 2), 2);
        due.is("13: with a LEASE", d.lease(0, 1, 0), 10);
        d.tick(3);
        due.is("13: each time a new STUB", d.lookup(1, 0, 2, 2), RemoteDesk.OK);
        due.is("13: so there are two more", d.state(1, 0), 4);
        due.is("13: and the LEASE is longer", d.lease(0, 1, 1), 13);
    }

    private static void promise13Order() {
        RemoteDesk d = desk();
        for (int i = 0; i < 10; i++) {
            d.make(1, 4, 0, 2);
        }
        d.link(0, 1, false);
        due.is("24: BAD first", d.lookup(1, 0, 4, 2), RemoteDesk.BAD);
        due.is("24: then UNLINKED", d.lookup(1, 0, 2, 2), RemoteDesk.UNLINKED);
        d.link(0, 1, true);
        due.is("24: then NOSUCH", d.lookup(1, 0, 2, 2), RemoteDesk.NOSUCH);
        d.bind(0, 2, 0);
        due.is("24: then FULL", d.lookup(1, 0, 2, 2), RemoteDesk.FULL);
        due.is("24: the VARIABLE stays", d.look(1, 2, 0, 0, 2), 1);
        due.is("24: no LEASE by that", d.lease(0, 1, 1), RemoteDesk.BAD);
    }

    private static void promise14() {
        RemoteDesk d = desk();
        d.bind(0, 0, 0);
        for (int p = 0; p < 3; p++) {
            due.is("14: with itself", d.link(p, p, true), false);
            due.is("14: with itself", d.link(p, p, false), false);
        }
        due.is("14: -1", d.link(-1, 0, false), false);
        due.is("14: 3", d.link(3, 0, false), false);
        due.is("14: -1", d.link(0, -1, false), false);
        due.is("14: 3", d.link(0, 3, false), false);
        due.is("14: they are so", d.link(0, 1, true), false);
        due.is("14: off", d.link(0, 1, false), true);
        due.is("14: they are so, the other way round, too", d.link(1, 0, false), false);
        due.is("14: one way", d.lookup(1, 0, 0, 3), RemoteDesk.UNLINKED);
        due.is("14: the other way", d.lookup(0, 1, 0, 3), RemoteDesk.UNLINKED);
        due.is("14: others are LINKED", d.lookup(2, 0, 0, 3), RemoteDesk.OK);
        due.is("14: each with itself", d.lookup(0, 0, 0, 3), RemoteDesk.OK);
        due.is("14: on by the other way", d.link(1, 0, true), true);
        due.is("14: so they are", d.lookup(1, 0, 0, 3), RemoteDesk.OK);
        due.is("14: off", d.link(2, 1, false), true);
        due.is("14: others stay", d.lookup(0, 1, 0, 3), RemoteDesk.NOSUCH);
    }

    private static void promise21() {
        RemoteDesk d = desk();
        d.bind(0, 0, 0);
        d.bind(0, 1, 1);
        d.lookup(1, 0, 1, 3);
        due.is("21: lease", d.lease(0, 2, 1), 10);
        due.is("21: another place", d.lease(0, 2, 2), RemoteDesk.BAD);
        due.is("21: another TICKET", d.lease(0, 1, 1), RemoteDesk.BAD);
        due.is("21: TICKET 0", d.lease(0, 0, 1), RemoteDesk.BAD);
        due.is("21: TICKET -1", d.lease(0, -1, 1), RemoteDesk.BAD);
        due.is("21: TICKET 3", d.lease(0, 3, 1), RemoteDesk.BAD);
        due.is("21: a STUB's own place", d.lease(1, 2, 0), RemoteDesk.BAD);
        due.is("21: q -1", d.lease(-1, 2, 1), RemoteDesk.BAD);
        due.is("21: q 3", d.lease(3, 2, 1), RemoteDesk.BAD);
        due.is("21: p -1", d.lease(0, 2, -1), RemoteDesk.BAD);
        due.is("21: p 3", d.lease(0, 2, 3), RemoteDesk.BAD);
    }

    private static void promise22() {
        RemoteDesk d = desk();
        d.offer(6, 1, 0, 0, 1, 0);
        d.offer(2, 2, -1, 0, 1, 0);
        d.make(2, 0, 1, 2);
        d.make(2, 2, 2, 3);
        d.bind(2, 0, 0);
        d.bind(2, -1, 1);
        d.retire(2, 1);
        d.bind(2, -1, 1);
        d.retire(2, 0);
        d.lookup(2, 2, 0, 3);
        d.bind(2, 1, 1);
        d.lookup(2, 2, 1, 3);
        int[] want = {5, 3, 3, 1};
        for (int what = 0; what < 4; what++) {
            due.is("22: state(2, " + what + ")", d.state(2, what), want[what]);
        }
        due.is("22: what -1", d.state(2, -1), RemoteDesk.BAD);
        due.is("22: what 4", d.state(2, 4), RemoteDesk.BAD);
        due.is("22: place -1", d.state(-1, 0), RemoteDesk.BAD);
        due.is("22: place 3", d.state(3, 0), RemoteDesk.BAD);
        due.is("22: another place", d.state(1, 0), 2);
        due.is("22: TICKETS of another place", d.state(1, 2), 0);
    }
}
