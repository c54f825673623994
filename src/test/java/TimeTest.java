/** Promises 16 and 17: COLLECTING and TIME. */
public final class TimeTest {
    private static final Due due = new Due();

    public static void main(String[] args) {
        promise16Reached();
        promise16Exported();
        promise16Stubs();
        promise16Unlinked();
        promise16UnlinkedHomes();
        promise16Numbers();
        promise17();
        promise17FirstObjects();
        promise17Renewal();
        promise17Unlinked();
        due.close();
    }

    /** All places have name 0, with a NUMBER and a REF, and name 1 with two REFS. */
    private static RemoteDesk desk() {
        RemoteDesk d = new RemoteDesk();
        for (int p = 0; p < 3; p++) {
            d.offer(4 + p, 0, -1, 2, 1, 0);
            d.offer(4 + p, 1, -1, 3, 1, 0);
        }
        return d;
    }

    private static void promise16Reached() {
        RemoteDesk d = desk();
        due.is("16: nothing", d.collect(0), 0);
        due.is("16: place -1", d.collect(-1), RemoteDesk.BAD);
        due.is("16: place 3", d.collect(3), RemoteDesk.BAD);
        d.make(0, 4, 0, 1);
        for (int i = 0; i < 11; i++) {
            d.make(0, 4, 0, 0);
            d.put(0, 0, 1, 1);
            d.let(0, 1, 0);
        }
        d.let(0, 1, -1);
        due.is("16: a chain from one VARIABLE", d.collect(0), 0);
        due.is("16: all are there", d.state(0, 0), 12);
        d.walk(0, 0, 1);
        due.is("16: the first goes", d.collect(0), 1);
        d.walk(0, 0, 1);
        d.walk(0, 0, 1);
        due.is("16: two go", d.collect(0), 2);
        d.put(0, 0, 0, 3);
        d.let(0, 1, 0);
        d.walk(0, 1, 1);
        d.put(0, 1, 1, 0);
        due.is("16: cut behind a circle of two", d.collect(0), 7);
        d.let(0, 1, -1);
        due.is("16: the circle is held", d.collect(0), 0);
        d.let(0, 0, -1);
        due.is("16: a circle that is not held", d.collect(0), 2);
        due.is("16: none", d.state(0, 0), 0);
        due.is("16: classes stay", d.state(0, 1), 1);
    }

    private static void promise16Exported() {
        RemoteDesk d = desk();
        d.make(0, 4, 0, 0);
        d.make(0, 4, 0, 1);
        d.put(0, 0, 1, 1);
        due.is("16: TICKET", d.bind(0, 2, 0), 1);
        d.let(0, 0, -1);
        d.let(0, 1, -1);
        due.is("16: held by a LABEL, and what it leads to", d.collect(0), 0);
        d.lookup(1, 0, 2, 3);
        d.unbind(0, 2);
        due.is("16: held by a LEASE, and what it leads to", d.collect(0), 0);
        d.let(1, 3, -1);
        due.is("16: at place 1 the STUB goes", d.collect(1), 1);
        due.is("16: its LEASE ends", d.lease(0, 1, 1), RemoteDesk.BAD);
        due.is("16: EXPORTED, but without a LEASE", d.collect(0), 2);
        due.is("16: none EXPORTED", d.state(0, 3), 0);
        due.is("16: TICKETS that were given", d.state(0, 2), 1);
        d.make(0, 4, 0, 0);
        due.is("16: a new object is not EXPORTED", d.look(0, 0, 0, 0, 5), RemoteDesk.NONE);
        due.is("16: the next TICKET", d.bind(0, 2, 0), 2);
        d.retire(0, 0);
        d.let(0, 0, -1);
        due.is("16: a LABEL holds what is not EXPORTED", d.collect(0), 0);
    }

    private static void promise16Stubs() {
        RemoteDesk d = desk();
        d.make(0, 4, 0, 0);
        d.bind(0, 0, 0);
        d.make(0, 4, 0, 1);
        d.bind(0, 1, 1);
        d.lookup(1, 0, 0, 0);
        d.lookup(1, 0, 0, 1);
        d.lookup(1, 0, 1, 2);
        d.lookup(2, 0, 0, 0);
        d.let(1, 0, -1);
        d.let(1, 2, -1);
        due.is("16: two STUBS go", d.collect(1), 2);
        due.is("16: one of the TICKET stays", d.lease(0, 1, 1), 10);
        due.is("16: none of the other", d.lease(0, 2, 1), RemoteDesk.BAD);
        d.make(1, 4, 0, 0);
        d.put(1, 0, 1, 1);
        d.let(1, 1, -1);
        due.is("16: a REF leads to the STUB", d.collect(1), 0);
        d.let(1, 0, -1);
        due.is("16: both go", d.collect(1), 2);
        due.is("16: the LEASE of place 1 ends", d.lease(0, 1, 1), RemoteDesk.BAD);
        due.is("16: that of place 2 does not", d.lease(0, 1, 2), 10);
        d.make(2, 4, 0, 1);
        d.bind(2, 0, 1);
        d.lookup(1, 2, 0, 0);
        d.lookup(1, 0, 0, 1);
        d.let(1, 0, -1);
        due.is("16: TICKET 1 of place 2 goes", d.collect(1), 1);
        due.is("16: its LEASE ends", d.lease(2, 1, 1), RemoteDesk.BAD);
        due.is("16: TICKET 1 of place 0 stays", d.lease(0, 1, 1), 10);
        d.lookup(0, 0, 0, 2);
        d.unbind(0, 0);
        d.let(0, 0, -1);
        d.let(0, 2, -1);
        d.let(1, 1, -1);
        d.let(2, 0, -1);
        d.collect(1);
        d.collect(2);
        due.is("16: the LEASE of a STUB that goes here keeps it once more", d.collect(0), 1);
        due.is("16: then it has none", d.lease(0, 1, 0), RemoteDesk.BAD);
        due.is("16: and it goes", d.collect(0), 1);
    }

    private static void promise16Unlinked() {
        RemoteDesk d = desk();
        d.make(0, 4, 0, 0);
        d.bind(0, 0, 0);
        d.lookup(1, 0, 0, 0);
        d.let(1, 0, -1);
        d.link(0, 1, false);
        due.is("16: goes without a link", d.collect(1), 1);
        due.is("16: but the LEASE does not end", d.lease(0, 1, 1), 10);
        d.unbind(0, 0);
        d.let(0, 0, -1);
        due.is("16: so the object stays", d.collect(0), 0);
        d.link(0, 1, true);
        due.is("16: no STUB goes later", d.collect(1), 0);
        due.is("16: TIME", d.tick(9), 9);
        due.is("16: it stays until the LEASE ends", d.collect(0), 0);
        due.is("16: TIME", d.tick(1), 10);
        due.is("16: it goes", d.collect(0), 1);
    }

    private static void promise16UnlinkedHomes() {
        for (int home = 0; home < 3; home++) {
            int place = (home + 1) % 3;
            int third = (home + 2) % 3;
            RemoteDesk d = desk();
            d.make(home, 4, 0, 0);
            d.bind(home, 0, 0);
            d.lookup(place, home, 0, 0);
            d.lookup(third, home, 0, 0);
            d.let(place, 0, -1);
            d.let(third, 0, -1);
            d.link(place, home, false);
            due.is("16: goes", d.collect(place), 1);
            due.is("16: goes", d.collect(third), 1);
            due.is("16: UNLINKED, the LEASE stays", d.lease(home, 1, place), 10);
            due.is("16: LINKED, it ends", d.lease(home, 1, third), RemoteDesk.BAD);
        }
    }

    private static void promise16Numbers() {
        RemoteDesk d = desk();
        d.make(0, 4, 1, 0);
        d.make(0, 4, 0, 1);
        d.put(0, 1, 0, 0);
        d.put(0, 0, 1, 1);
        d.make(0, 4, 0, 1);
        due.is("16: CELL 1 leads on", d.collect(0), 0);
        d.put(0, 0, 1, 9);
        d.put(0, 1, 0, 1);
        due.is("16: a NUMBER does not", d.collect(0), 1);
        d.make(0, 4, 1, 2);
        d.put(0, 0, 0, 2);
        d.let(0, 2, -1);
        due.is("16: CELL 0 leads on", d.collect(0), 0);
        due.is("16: three", d.state(0, 0), 3);
        d.make(1, 4, 0, 0);
        d.let(1, 0, -1);
        due.is("16: other places do not change", d.collect(0), 0);
        due.is("16: so", d.state(1, 0), 1);
    }

    private static void promise17() {
        RemoteDesk d = desk();
        due.is("17: 0", d.tick(0), 0);
        due.is("17: 400", d.tick(400), 400);
        due.is("17: 401", d.tick(401), RemoteDesk.BAD);
        due.is("17: -1", d.tick(-1), RemoteDesk.BAD);
        due.is("17: the ends", d.tick(Integer.MIN_VALUE), RemoteDesk.BAD);
        due.is("17: the ends", d.tick(Integer.MAX_VALUE), RemoteDesk.BAD);
        due.is("17: nothing changed", d.tick(0), 400);
        due.is("17: 1", d.tick(1), 401);
    }

    private static void promise17FirstObjects() {
        RemoteDesk d = desk();
        d.make(1, 4, 0, 0);
        d.bind(1, 0, 0);
        d.lookup(0, 1, 0, 0);
        d.tick(4);
        due.is("17: the first object of place 0 is RENEWED", d.lease(1, 1, 0), 14);
        d = desk();
        d.make(0, 4, 0, 0);
        d.bind(0, 0, 0);
        d.lookup(1, 0, 0, 0);
        d.lookup(0, 0, 0, 1);
        d.tick(400);
        due.is("17: LEASES of all places", d.lease(0, 1, 0), 410);
        due.is("17: LEASES of all places", d.lease(0, 1, 1), 410);
    }

    private static void promise17Renewal() {
        RemoteDesk d = desk();
        d.make(0, 4, 0, 0);
        d.bind(0, 0, 0);
        d.tick(1);
        d.lookup(1, 0, 0, 0);
        due.is("17: at 1", d.lease(0, 1, 1), 11);
        d.tick(2);
        due.is("17: at 3", d.lease(0, 1, 1), 11);
        d.tick(1);
        due.is("17: RENEWED at 4", d.lease(0, 1, 1), 14);
        d.tick(3);
        due.is("17: at 7", d.lease(0, 1, 1), 14);
        d.tick(33);
        due.is("17: at 40", d.lease(0, 1, 1), 50);
        d.let(1, 0, -1);
        d.tick(4);
        due.is("17: a STUB that nothing holds is RENEWED until it goes", d.lease(0, 1, 1), 54);
        d.lookup(2, 0, 0, 0);
        due.is("17: a LEASE of another place", d.lease(0, 1, 2), 54);
        d.tick(400);
        due.is("17: both", d.lease(0, 1, 1), 454);
        due.is("17: both", d.lease(0, 1, 2), 454);
    }

    private static void promise17Unlinked() {
        RemoteDesk d = desk();
        d.make(0, 4, 0, 0);
        d.bind(0, 0, 0);
        d.tick(2);
        d.lookup(1, 0, 0, 0);
        d.lookup(2, 0, 0, 0);
        d.link(0, 1, false);
        d.tick(9);
        due.is("17: not RENEWED without a link", d.lease(0, 1, 1), 12);
        due.is("17: the other one", d.lease(0, 1, 2), 18);
        d.link(0, 1, true);
        due.is("17: a link alone does not RENEW", d.lease(0, 1, 1), 12);
        d.tick(1);
        due.is("17: RENEWED at 12, before it would end", d.lease(0, 1, 1), 22);
        d.link(0, 1, false);
        d.tick(9);
        due.is("17: at 21", d.lease(0, 1, 1), 22);
        d.tick(1);
        due.is("17: ended at 22", d.lease(0, 1, 1), RemoteDesk.BAD);
        d.link(0, 1, true);
        d.tick(2);
        due.is("17: a STUB gets a LEASE again", d.lease(0, 1, 1), 34);
    }
}
