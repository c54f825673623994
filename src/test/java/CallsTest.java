/** Promises 15, 23 and 24: CALLS by their PARTS, faults, order and limits. */
public final class CallsTest {
    private static final Due due = new Due();

    public static void main(String[] args) {
        promise15Numbers();
        methodsOfRefs();
        methodTwo();
        methodsThatGive();
        nothingAsArgument();
        writing();
        writingExported();
        readingStubsOfThirdPlaces();
        readingErrors();
        readingFull();
        errorsOnTheWayBack();
        callToOwnPlace();
        readingFirstNumbers();
        orderOfParts();
        promise23();
        due.close();
    }

    /**
     * Places 0 and 1 have name 0 (NUMBER, REF), 1 (two REFS), 2 (two NUMBERS), all SENDABLE, and 3 (two REFS), which is not.
     * Place 1 has an object of name 0 in VARIABLE 0 with TICKET 1, one of name 1 in VARIABLE 1 with TICKET 2.
     * Place 0 has STUBS of them in VARIABLES 0 and 1.
     */
    private static RemoteDesk desk() {
        RemoteDesk d = new RemoteDesk();
        int[] shapes = {2, 3, 0, 3};
        for (int p = 0; p < 2; p++) {
            for (int name = 0; name < 4; name++) {
                d.offer(4 + p, name, -1, shapes[name], name == 3 ? 0 : 1, 0);
            }
        }
        d.make(1, 4, 0, 0);
        d.make(1, 4, 1, 1);
        d.bind(1, 0, 0);
        d.bind(1, 1, 1);
        d.lookup(0, 1, 0, 0);
        d.lookup(0, 1, 1, 1);
        return d;
    }

    private static void ends(String what, RemoteDesk d, int part, int name) {
        due.is(what + ", its PART", d.fault(0), part);
        due.is(what + ", its name", d.fault(1), name);
    }

    private static void promise15Numbers() {
        RemoteDesk d = desk();
        int[][] wrong = {{-1, 0, 3, 2, 2}, {3, 0, 3, 2, 2}, {0, -1, 3, 2, 2}, {0, 4, 3, 2, 2}, {0, 0, -1, 2, 2}, {0, 0, 6, 2, 2},
            {0, 0, 3, -1, 2}, {0, 0, 3, 4, 2}, {0, 0, 3, 2, -1}, {0, 0, 3, 2, 4}, {0, 2, 3, 2, 2}, {1, 0, 3, 2, 2}};
        for (int[] w : wrong) {
            due.is("15: a wrong number, nothing, or PLAIN", d.call(w[0], w[1], w[2], w[3], w[4]), RemoteDesk.BAD);
        }
        ends("23: there was none", d, RemoteDesk.BAD, RemoteDesk.BAD);
        due.is("15: nothing was made", d.state(1, 0), 2);
        due.is("15: nothing was made", d.state(0, 0), 2);
    }

    private static void methodsOfRefs() {
        RemoteDesk d = desk();
        d.make(0, 4, 2, 2);
        d.put(0, 2, 0, 40);
        d.put(0, 2, 1, 41);
        for (int m = 0; m < 2; m++) {
            due.is("15: a REF gets a copy", d.call(0, 1, m, 2, 3), RemoteDesk.OK);
            due.is("15: it held nothing", d.digest(0, 3), 1);
            due.is("15: a class of name 2", d.look(1, 1, m, 1, 3), 2);
            due.is("15: its NUMBERS", d.look(1, 1, m, 1, 0), 40);
            due.is("15: its NUMBERS", d.look(1, 1, m, 1, 1), 41);
        }
        d.put(0, 2, 0, 50);
        due.is("15: it is a copy", d.look(1, 1, 0, 1, 0), 40);
        due.is("15: again", d.call(0, 1, 0, 2, 2), RemoteDesk.OK);
        due.is("15: what it held comes back", d.look(0, 2, 0, 0, 0), 40);
        due.is("15: what it holds", d.look(1, 1, 0, 1, 0), 50);
        due.is("15: CELL 1 stays", d.look(1, 1, 1, 1, 0), 40);
        due.is("15: nothing as x", d.call(0, 1, 1, 3, 2), RemoteDesk.OK);
        due.is("15: what CELL 1 held comes back", d.look(0, 2, 0, 0, 1), 41);
        due.is("15: so it holds nothing", d.look(1, 1, 0, 0, 1), 0);
        due.is("15: MISFIT for a NUMBER", d.call(0, 0, 0, 2, 2), RemoteDesk.MISFIT);
        ends("15: MISFIT", d, 5, -1);
        due.is("15: its NUMBER stays", d.look(1, 0, 0, 0, 0), 0);
        due.is("15: CELL 1 is a REF", d.call(0, 0, 1, 2, 3), RemoteDesk.OK);
        ends("15: no ERROR", d, 0, -1);
    }

    private static void methodTwo() {
        RemoteDesk d = desk();
        d.put(1, 0, 0, Integer.MAX_VALUE);
        d.make(0, 4, 2, 2);
        d.put(0, 2, 0, 2);
        d.put(0, 2, 1, 9);
        due.is("15: 2", d.call(0, 0, 2, 2, 3), RemoteDesk.OK);
        due.is("15: it wraps", d.look(1, 0, 0, 0, 0), Integer.MIN_VALUE + 1);
        due.is("15: x comes back", d.look(0, 3, 0, 0, 1), 9);
        due.is("15: x is not changed", d.look(0, 3, 0, 0, 0), 2);
        due.is("15: 2 with what came back", d.call(0, 0, 2, 3, 3), RemoteDesk.OK);
        d.let(0, 3, -1);
        due.is("15: 2 of nothing", d.call(0, 0, 2, 3, 3), RemoteDesk.MISFIT);
        due.is("15: 2 of a STUB", d.call(0, 0, 2, 1, 3), RemoteDesk.MISFIT);
        due.is("15: o has a REF", d.call(0, 1, 2, 2, 3), RemoteDesk.MISFIT);
        d.make(0, 4, 1, 2);
        due.is("15: x has a REF", d.call(0, 0, 2, 2, 3), RemoteDesk.MISFIT);
        ends("15: 2", d, 5, -1);
        d.offer(4, 4, -1, 1, 1, 0);
        d.offer(5, 4, -1, 1, 1, 0);
        d.make(0, 4, 4, 2);
        due.is("15: CELL 0 of x is a REF, CELL 1 a NUMBER", d.call(0, 0, 2, 2, 3), RemoteDesk.MISFIT);
        d.make(0, 4, 0, 2);
        due.is("15: CELL 0 of x is a NUMBER, CELL 1 a REF", d.call(0, 0, 2, 2, 3), RemoteDesk.OK);
        due.is("24: what was READ stays", d.state(1, 0), 9);
        due.is("15: it grew twice", d.look(1, 0, 0, 0, 0), Integer.MIN_VALUE + 3);
    }

    private static void methodsThatGive() {
        RemoteDesk d = desk();
        d.make(0, 4, 2, 2);
        d.put(0, 2, 1, -7);
        due.is("15: 3", d.call(0, 0, 3, 2, 3), RemoteDesk.OK);
        due.is("15: gives x", d.look(0, 3, 0, 0, 1), -7);
        due.is("15: 4", d.call(0, 0, 4, 2, 3), RemoteDesk.OK);
        due.is("15: gives o, which is EXPORTED", d.look(0, 3, 0, 0, 2), 2);
        due.is("15: of place 1", d.look(0, 3, 0, 0, 6), 1);
        due.is("15: with its TICKET", d.look(0, 3, 0, 0, 5), 1);
        due.is("15: 5", d.call(0, 0, 5, 2, 3), RemoteDesk.THROWN);
        due.is("15: gives x", d.look(0, 3, 0, 0, 1), -7);
        ends("23: THROWN is no ERROR", d, 0, -1);
        due.is("15: copies at q", d.state(1, 0), 5);
        due.is("15: and at p", d.state(0, 0), 6);
        d.link(0, 1, false);
        due.is("15: 5 with an ERROR", d.call(0, 0, 5, 2, 3), RemoteDesk.UNLINKED);
    }

    private static void nothingAsArgument() {
        RemoteDesk d = desk();
        d.make(0, 4, 2, 2);
        due.is("15: nothing", d.call(0, 0, 3, 3, 2), RemoteDesk.OK);
        due.is("15: comes back", d.digest(0, 2), 1);
        due.is("15: nothing", d.call(0, 0, 5, 3, 2), RemoteDesk.THROWN);
        due.is("15: nothing was made", d.state(1, 0), 2);
    }

    private static void writing() {
        RemoteDesk d = desk();
        d.make(0, 4, 1, 2);
        d.make(0, 4, 1, 3);
        d.put(0, 2, 0, 3);
        d.put(0, 2, 1, 2);
        d.put(0, 3, 1, 2);
        d.make(0, 4, 0, 3);
        d.put(0, 3, 0, 12345);
        d.put(0, 3, 1, 2);
        long graph = d.digest(0, 3);
        due.is("15: a graph with circles", d.call(0, 1, 0, 3, 2), RemoteDesk.OK);
        due.is("15: three were READ", d.state(1, 0), 5);
        d.walk(1, 1, 0);
        due.is("15: as it was", d.digest(1, 1), graph);
        d.make(0, 4, 3, 2);
        d.put(0, 3, 1, 2);
        due.is("15: behind a SENDABLE one", d.call(0, 1, 0, 3, 3), RemoteDesk.UNSENDABLE);
        ends("15: UNSENDABLE", d, 1, 3);
        due.is("15: nothing was READ", d.state(1, 0), 5);
        d.bind(0, 0, 2);
        due.is("15: EXPORTED it need not be SENDABLE", d.call(0, 1, 0, 3, 3), RemoteDesk.OK);
    }

    private static void writingExported() {
        RemoteDesk d = desk();
        d.make(0, 4, 3, 2);
        d.make(0, 4, 1, 3);
        d.put(0, 3, 1, 2);
        due.is("15: TICKET", d.bind(0, -1, 3), 1);
        due.is("15: nothing leads on from an EXPORTED one", d.call(0, 1, 0, 3, 2), RemoteDesk.OK);
        due.is("15: a STUB", d.look(1, 1, 0, 1, 2), 2);
        due.is("15: of place 0", d.look(1, 1, 0, 1, 6), 0);
        due.is("15: RENEWED", d.lease(0, 1, 1), 10);
        due.is("15: back", d.call(0, 1, 0, 0, 2), RemoteDesk.OK);
        due.is("15: it is a STUB at its own place", d.look(0, 2, 0, 0, 2), 2);
        due.is("15: of that", d.look(0, 2, 0, 0, 6), 0);
        due.is("15: with a LEASE", d.lease(0, 1, 0), 10);
        due.is("15: and place 1 has a STUB of itself", d.look(1, 1, 0, 1, 6), 1);
        due.is("15: with a LEASE", d.lease(1, 1, 1), 10);
    }

    private static void readingStubsOfThirdPlaces() {
        RemoteDesk d = desk();
        d.offer(6, 0, -1, 0, 0, 0);
        d.make(2, 4, 0, 0);
        d.bind(2, 0, 0);
        d.lookup(0, 2, 0, 2);
        d.tick(1);
        d.link(1, 2, false);
        due.is("15: a STUB of place 2", d.call(0, 1, 0, 2, 3), RemoteDesk.OK);
        due.is("15: at place 1", d.look(1, 1, 0, 1, 6), 2);
        due.is("15: not RENEWED without a link", d.lease(2, 1, 1), RemoteDesk.BAD);
        d.link(1, 2, true);
        due.is("15: once more", d.call(0, 1, 1, 2, 3), RemoteDesk.OK);
        due.is("15: RENEWED with it", d.lease(2, 1, 1), 11);
        due.is("15: that of place 0 stays", d.lease(2, 1, 0), 10);
    }

    private static void readingErrors() {
        RemoteDesk d = desk();
        d.offer(4, 5, -1, 0, 1, 0);
        d.offer(4, 6, -1, 1, 1, 0);
        d.make(0, 4, 5, 2);
        d.put(0, 2, 0, 8);
        d.make(0, 4, 6, 3);
        d.put(0, 3, 0, 2);
        due.is("15: the first ITEM's class", d.call(0, 1, 3, 3, 2), RemoteDesk.NOTFOUND);
        ends("15: NOTFOUND", d, 4, 6);
        d.offer(5, 6, -1, 1, 1, 0);
        due.is("15: the second ITEM's class", d.call(0, 1, 3, 3, 2), RemoteDesk.NOTFOUND);
        ends("15: NOTFOUND", d, 4, 5);
        due.is("15: what was made by it stays", d.state(1, 0), 3);
        d.offer(5, 5, 7, 1, 5, 0);
        due.is("15: the PARENT's ERROR, the ITEM's name", d.call(0, 1, 3, 2, 2), RemoteDesk.NOTFOUND);
        ends("15: of the PARENT", d, 4, 5);
        d.offer(5, 5, -1, 1, 5, 0);
        due.is("15: WRONG before READYING", d.call(0, 1, 3, 2, 2), RemoteDesk.WRONG);
        ends("15: WRONG", d, 4, 5);
        due.is("15: it is FRESH", d.known(1, 4, 5, 1), 0);
        d.annotate(0, 3);
        d.offer(3, 5, -1, 0, 5, 0);
        d.prefer(3, 32);
        due.is("15: INIT", d.call(0, 1, 3, 2, 3), RemoteDesk.INIT);
        ends("15: INIT", d, 4, 5);
        due.is("15: GONE", d.call(0, 1, 3, 2, 3), RemoteDesk.GONE);
        ends("15: GONE", d, 4, 5);
        due.is("15: the VARIABLE stays", d.look(0, 3, 0, 0, 3), 6);
        due.is("15: v, too", d.look(0, 2, 0, 0, 0), 8);
    }

    private static void readingFull() {
        RemoteDesk d = desk();
        d.offer(4, 5, -1, 3, 1, 0);
        d.offer(5, 5, -1, 3, 5, 0);
        for (int i = 0; i < 9; i++) {
            d.make(1, 4, 2, 3);
        }
        d.make(0, 4, 1, 2);
        d.put(0, 2, 0, 1);
        due.is("15: FULL at a STUB", d.call(0, 0, 3, 2, 3), RemoteDesk.FULL);
        ends("15: FULL at a STUB", d, 4, -1);
        due.is("15: 12 objects", d.state(1, 0), 12);
        due.is("15: FULL at a PLAIN one", d.call(0, 0, 3, 2, 3), RemoteDesk.FULL);
        ends("15: FULL at a PLAIN one", d, 4, 1);
        d.make(0, 4, 5, 2);
        due.is("15: READYING comes before FULL", d.call(0, 0, 3, 2, 3), RemoteDesk.INIT);
        ends("15: READYING", d, 4, 5);
        due.is("15: FULL is not for nothing", d.call(0, 0, 3, 3, 3), RemoteDesk.OK);
        for (int i = 0; i < 8; i++) {
            d.make(0, 4, 2, 3);
        }
        d.call(0, 0, 4, 2, 2);
        ends("15: READING comes first", d, 4, 5);
        d.let(0, 2, -1);
        due.is("15: place 0 has 12", d.state(0, 0), 12);
        due.is("15: FULL at p", d.call(0, 0, 4, 2, 3), RemoteDesk.FULL);
        ends("15: FULL at p", d, 7, -1);
    }

    private static void errorsOnTheWayBack() {
        RemoteDesk d = desk();
        d.make(1, 4, 3, 2);
        d.put(1, 1, 0, 2);
        d.make(0, 4, 2, 2);
        d.put(0, 2, 0, 3);
        due.is("15: what it held is UNSENDABLE", d.call(0, 1, 0, 2, 2), RemoteDesk.UNSENDABLE);
        ends("15: part 6", d, 6, 3);
        due.is("24: what the METHOD did stays done", d.look(1, 1, 0, 1, 0), 3);
        due.is("24: what was READ stays", d.state(1, 0), 4);
        due.is("15: the VARIABLE stays", d.look(0, 2, 0, 0, 0), 3);
        d.offer(5, 5, -1, 0, 1, 0);
        d.make(1, 4, 5, 2);
        d.put(1, 1, 0, 2);
        due.is("15: what comes back is not LOADED here", d.call(0, 1, 0, 2, 2), RemoteDesk.NOTFOUND);
        ends("15: part 7", d, 7, 5);
        due.is("24: what the METHOD did stays done", d.look(1, 1, 0, 1, 0), 3);
        due.is("15: the VARIABLE stays", d.look(0, 2, 0, 0, 0), 3);
        d.put(1, 1, 0, 2);
        d.annotate(1, 2);
        d.offer(2, 5, -1, 0, 1, 0);
        due.is("15: by the ANNOTATION of q", d.call(0, 1, 0, 2, 2), RemoteDesk.OK);
        due.is("15: LOADER 2", d.look(0, 2, 0, 0, 4), 2);
        d.make(0, 4, 2, 2);
        d.put(1, 0, 0, 100);
        d.put(0, 2, 0, 11);
        due.is("15: x is of LOADER 4 at q, whose ANNOTATION is 2", d.call(0, 0, 2, 2, 3), RemoteDesk.OK);
        due.is("15: LOADER 2 asks LOADER 4 of place 0", d.look(0, 3, 0, 0, 4), 4);
        due.is("15: grown", d.look(1, 0, 0, 0, 0), 111);
    }

    private static void callToOwnPlace() {
        RemoteDesk d = desk();
        d.lookup(1, 1, 1, 2);
        d.make(1, 4, 2, 3);
        d.put(1, 3, 0, 6);
        due.is("15: at the own place", d.call(1, 2, 1, 3, 0), RemoteDesk.OK);
        due.is("15: a copy", d.look(1, 1, 1, 1, 0), 6);
        d.put(1, 3, 0, 7);
        due.is("15: not the same", d.look(1, 1, 1, 1, 0), 6);
        due.is("15: r may be the STUB's VARIABLE", d.call(1, 2, 3, 3, 2), RemoteDesk.OK);
        due.is("15: so", d.look(1, 2, 0, 0, 0), 7);
        due.is("15: it was read twice", d.state(1, 0), 7);
    }

    private static void readingFirstNumbers() {
        RemoteDesk d = new RemoteDesk();
        d.offer(4, 0, -1, 0, 1, 0);
        d.make(0, 4, 0, 0);
        d.make(0, 4, 0, 1);
        d.bind(0, 0, 1);
        d.offer(0, 0, -1, 0, 1, 0);
        d.prefer(0, 1);
        d.make(1, 0, 0, 0);
        d.put(1, 0, 0, 21);
        d.lookup(1, 0, 0, 1);
        d.let(0, 0, -1);
        due.is("15: the first object of place 0 is free", d.collect(0), 1);
        due.is("15: READ as that, of name 0 by LOADER 0", d.call(1, 1, 2, 0, 2), RemoteDesk.OK);
        due.is("15: done with it", d.look(0, 1, 0, 0, 0), 21);
        due.is("15: DEFINED by LOADER 0", d.known(0, 0, 0, 0), 0);
    }

    private static void orderOfParts() {
        RemoteDesk d = desk();
        d.make(0, 4, 3, 2);
        d.offer(4, 5, -1, 0, 1, 0);
        d.make(0, 4, 5, 3);
        d.retire(1, 0);
        d.link(0, 1, false);
        due.is("24: BAD first", d.call(0, 0, 3, 2, 4), RemoteDesk.BAD);
        due.is("24: then WRITING", d.call(0, 0, 3, 2, 3), RemoteDesk.UNSENDABLE);
        due.is("24: then UNLINKED", d.call(0, 0, 3, 3, 3), RemoteDesk.UNLINKED);
        ends("24: UNLINKED", d, 2, -1);
        d.link(0, 1, true);
        due.is("24: then NOSUCH", d.call(0, 0, 3, 3, 3), RemoteDesk.NOSUCH);
        ends("24: NOSUCH", d, 3, -1);
        due.is("24: nothing was READ until then", d.state(1, 0), 2);
        due.is("24: then READING", d.call(0, 1, 2, 3, 3), RemoteDesk.NOTFOUND);
        ends("24: READING", d, 4, 5);
        d.offer(5, 5, -1, 0, 1, 0);
        due.is("24: then the METHOD", d.call(0, 1, 2, 3, 3), RemoteDesk.MISFIT);
        ends("24: MISFIT", d, 5, -1);
        due.is("24: what was READ stays", d.state(1, 0), 3);
    }

    private static void promise23() {
        RemoteDesk d = desk();
        due.is("23: none yet", d.fault(0), RemoteDesk.BAD);
        d.make(0, 4, 3, 2);
        d.call(0, 0, 3, 2, 3);
        ends("23: UNSENDABLE", d, 1, 3);
        due.is("23: what -1", d.fault(-1), RemoteDesk.BAD);
        due.is("23: what 2", d.fault(2), RemoteDesk.BAD);
        d.call(0, 0, 6, 2, 3);
        d.make(0, 4, 7, 3);
        d.lookup(0, 1, 3, 3);
        ends("23: BAD calls and others leave it", d, 1, 3);
        d.call(0, 0, 3, 3, 3);
        ends("23: a good one", d, 0, -1);
    }
}
