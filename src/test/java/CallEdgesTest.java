/** The boundary cases about GRAPHS and CALLS; above each test stands what the document says. */
public final class CallEdgesTest {
    private static final Due due = new Due();
    private static final int OK = RemoteDesk.OK, BAD = RemoteDesk.BAD, NOTFOUND = RemoteDesk.NOTFOUND, PROHIBITED = RemoteDesk.PROHIBITED,
        SPOILED = RemoteDesk.SPOILED, CIRCLE = RemoteDesk.CIRCLE, SIGNERS = RemoteDesk.SIGNERS, INIT = RemoteDesk.INIT, GONE = RemoteDesk.GONE,
        WRONG = RemoteDesk.WRONG, FULL = RemoteDesk.FULL, UNSENDABLE = RemoteDesk.UNSENDABLE, UNLINKED = RemoteDesk.UNLINKED,
        NOSUCH = RemoteDesk.NOSUCH, MISFIT = RemoteDesk.MISFIT, THROWN = RemoteDesk.THROWN;

    public static void main(String[] args) {
        graphFromNothing();
        nothingNeedsNoRoom();
        itemsInOrder();
        eachObjectOnce();
        elevenItems();
        twelveItems();
        exportedLeadsNowhere();
        stubLeadsNowhere();
        firstUnsendable();
        unsendableOnTheWayBack();
        sourceIsTheLoader();
        sourceIsTheAnnotation();
        annotationsOfBothPlaces();
        readingErrorsThere();
        readingErrorsBack();
        fullComesLast();
        whatWasMadeStays();
        cellsAreAsInTheGraph();
        newStubIsRenewed();
        badFirst();
        partsInOrder();
        variableStays();
        refMethods();
        methodTwoWraps();
        methodTwoMisfits();
        methodsThatGive();
        thrownIfAllGoesWell();
        doneStaysDone();
        sameVariables();
        ownPlace();
        faultOfTheLatest();
        due.close();
    }

    /**
     * Names 0..3 of place 0 have two REFS, names 4..7 two NUMBERS, 8 a NUMBER and a REF, 9 a REF and a NUMBER, and so at
     * place 1, all SENDABLE. Place 1 has an object of name 0 with TICKET 1 in VARIABLE 0 and one of name 8 with TICKET 2 in
     * VARIABLE 1; place 0 has a STUB of the former in VARIABLE 0.
     */
    private static RemoteDesk desk() {
        RemoteDesk d = new RemoteDesk();
        for (int name = 0; name < 10; name++) {
            int shape = name < 4 ? 3 : name < 8 ? 0 : name == 8 ? 2 : 1;
            d.offer(4, name, -1, shape, 1, 0);
            d.offer(5, name, -1, shape, 1, 0);
        }
        d.make(1, 4, 0, 0);
        d.make(1, 4, 8, 1);
        d.bind(1, 0, 0);
        d.bind(1, 1, 1);
        d.lookup(0, 1, 0, 0);
        return d;
    }

    /** Makes objects that nothing holds, until there is room for so many more. */
    private static void leaveRoom(RemoteDesk d, int p, int room) {
        d.let(p, 3, -1);
        while (d.state(p, 0) < 12 - room) {
            d.make(p, 4, 7, 3);
        }
        d.let(p, 3, -1);
    }

    private static void ends(String what, RemoteDesk d, int part, int name) {
        due.is(what + ": its PART", d.fault(0), part);
        due.is(what + ": its name", d.fault(1), name);
    }

    /** "A GRAPH is WRITTEN at a place, from an object or nothing" */
    private static void graphFromNothing() {
        for (int m = 0; m < 6; m++) {
            RemoteDesk d = desk();
            d.make(0, 4, 4, 2);
            int want = m == 2 ? MISFIT : m == 5 ? THROWN : OK;
            due.is("nothing: METHOD " + m, d.call(0, 0, m, 1, 2), want);
            due.is("nothing: none is READ at 1", d.state(1, 0), 2);
            due.is("nothing: READ at 0", d.state(0, 0), m == 4 ? 3 : 2);
            due.is("nothing: what VARIABLE 2 holds", d.look(0, 2, 0, 0, 2), m == 4 ? 2 : m == 2 ? 1 : RemoteDesk.NONE);
            ends("nothing", d, m == 2 ? 5 : 0, -1);
        }
    }

    /** "FULL if there are 12 objects, for both": nothing is no object */
    private static void nothingNeedsNoRoom() {
        RemoteDesk d = desk();
        leaveRoom(d, 0, 0);
        leaveRoom(d, 1, 0);
        due.is("nothing: both places are FULL", d.call(0, 0, 3, 1, 2), OK);
        due.is("nothing: for a REF", d.call(0, 0, 0, 1, 2), OK);
        due.is("nothing: and THROWN", d.call(0, 0, 5, 1, 2), THROWN);
        due.is("nothing: but a STUB comes back", d.call(0, 0, 4, 1, 2), FULL);
        ends("nothing: a STUB", d, 7, -1);
    }

    /** "its ITEMS are the object, then all that is met from CELL 0 on, then from CELL 1 on": FULL tells how far it came */
    private static void itemsInOrder() {
        int[] order = {3, 1, 4, 5, 2, 6, -1};
        for (int room = 0; room <= 7; room++) {
            RemoteDesk d = desk();
            d.make(0, 4, 1, 1);
            d.make(0, 4, 4, 3);
            d.put(0, 1, 0, 3);
            d.make(0, 4, 5, 3);
            d.put(0, 1, 1, 3);
            d.make(0, 4, 2, 2);
            d.make(0, 4, 6, 3);
            d.put(0, 2, 0, 3);
            d.put(0, 2, 1, 0);
            d.make(0, 4, 3, 3);
            d.put(0, 3, 0, 1);
            d.put(0, 3, 1, 2);
            d.let(0, 1, 3);
            leaveRoom(d, 1, room);
            due.is("order: room for " + room, d.call(0, 0, 1, 1, 2), room < 7 ? FULL : OK);
            ends("order: room for " + room, d, room < 7 ? 4 : 0, room < 7 ? order[room] : -1);
            due.is("order: READ until then", d.state(1, 0), 12);
        }
    }

    /** "(each object once, where it is met first; REFS alone lead on)" */
    private static void eachObjectOnce() {
        RemoteDesk d = desk();
        d.make(0, 4, 0, 1);
        d.make(0, 4, 1, 2);
        d.make(0, 4, 8, 3);
        d.put(0, 1, 0, 2);
        d.put(0, 1, 1, 3);
        d.put(0, 2, 0, 1);
        d.put(0, 2, 1, 3);
        d.put(0, 3, 0, 0);
        d.put(0, 3, 1, 2);
        long graph = d.digest(0, 1);
        due.is("once: a graph with circles", d.call(0, 0, 0, 1, 2), OK);
        due.is("once: three objects", d.state(1, 0), 5);
        due.is("once: it is led to", d.walk(1, 0, 0), true);
        due.is("once: the same graph", d.digest(1, 0), graph);
        due.is("once: name 8 by CELL 1", d.look(1, 0, 1, 1, 3), 8);
        due.is("once: name 8 by CELL 0 and CELL 1", d.look(1, 0, 2, 2, 3), 8);
        due.is("once: back to name 1", d.look(1, 0, 3, 2, 3), 1);
        d.let(1, 2, 0);
        d.walk(1, 2, 1);
        d.put(1, 2, 0, 44);
        due.is("once: it is one object", d.look(1, 0, 2, 2, 0), 44);
    }

    /** All places have names 0..3 with two REFS; place q has an EXPORTED object of name 0 in VARIABLE 0, and p a STUB of it there. */
    private static RemoteDesk called(int p, int q) {
        RemoteDesk d = new RemoteDesk();
        for (int name = 0; name < 12; name++) {
            d.offer(4 + name / 4, name % 4, -1, 3, 1, 0);
        }
        d.make(q, 4, 0, 0);
        d.bind(q, 0, 0);
        d.lookup(p, q, 0, 0);
        return d;
    }

    /** VARIABLE 2 of p holds the last of eleven more objects, each leading by REF i % 2 to the one before. */
    private static void chainOfEleven(RemoteDesk d, int p) {
        for (int i = 0; i < 11; i++) {
            d.make(p, 4, i % 4, 1);
            d.put(p, 1, i % 2, 2);
            d.let(p, 2, 1);
        }
        d.let(p, 1, -1);
    }

    /** "READ .. a new object of it. FULL if there are 12 objects": eleven have room beside the one that is called */
    private static void elevenItems() {
        for (int pair = 0; pair < 9; pair++) {
            int p = pair / 3;
            int q = pair % 3;
            int third = 3 - p - q;
            if (p == q) {
                continue;
            }
            RemoteDesk d = called(p, q);
            d.make(third, 4, 0, 0);
            d.put(third, 0, 0, 0);
            chainOfEleven(d, p);
            due.is("eleven: 12 objects at " + p, d.state(p, 0), 12);
            long graph = d.digest(p, 2);
            due.is("eleven: REF 0 gets them, nothing comes back", d.call(p, 0, 0, 2, 3), OK);
            due.is("eleven: 12 objects at " + q, d.state(q, 0), 12);
            d.let(q, 2, 0);
            d.walk(q, 2, 0);
            due.is("eleven: the same graph", d.digest(q, 2), graph);
            due.is("eleven: no room to send them again", d.call(p, 0, 0, 2, 3), FULL);
            ends("eleven", d, 4, 2);
            due.is("eleven: nor for what it held to come back", d.call(p, 0, 0, 3, 3), FULL);
            ends("eleven: back", d, 7, 2);
            due.is("eleven: what was there stays", d.digest(p, 2), graph);
            due.is("eleven: the third place", d.look(third, 0, 0, 3, 3), 0);
        }
    }

    /** The same: for twelve there is never room */
    private static void twelveItems() {
        for (int pair = 0; pair < 9; pair++) {
            int p = pair / 3;
            int q = pair % 3;
            if (p == q) {
                continue;
            }
            RemoteDesk d = called(p, q);
            d.let(p, 2, 0);
            chainOfEleven(d, p);
            due.is("twelve: eleven are READ, then FULL at the STUB", d.call(p, 0, 3, 2, 3), FULL);
            ends("twelve", d, 4, -1);
            due.is("twelve: 12 objects", d.state(q, 0), 12);
            due.is("twelve: they go", d.collect(q), 11);
            d = called(p, q);
            chainOfEleven(d, p);
            d.put(p, 2, 1, 0);
            due.is("twelve: the STUB comes last by REF 1", d.call(p, 0, 3, 2, 3), FULL);
            ends("twelve: by REF 1", d, 4, -1);
            d = called(p, q);
            d.make(p, 4, 0, 1);
            d.make(p, 4, 3, 2);
            d.put(p, 1, 0, 0);
            d.put(p, 1, 1, 2);
            for (int i = 0; i < 9; i++) {
                d.make(p, 4, i % 3, 3);
                d.put(p, 3, 1, 1);
                d.let(p, 1, 3);
            }
            due.is("twelve: the STUB comes before", d.call(p, 0, 3, 1, 2), FULL);
            ends("twelve: so it is FULL at name 3", d, 4, 3);
        }
    }

    /** "An object that is EXPORTED is written as a STUB of its place and TICKET; from that .. nothing leads on." */
    private static void exportedLeadsNowhere() {
        RemoteDesk d = desk();
        d.offer(4, 10, -1, 3, 0, 0);
        d.make(0, 4, 10, 1);
        d.make(0, 4, 10, 2);
        d.put(0, 2, 0, 1);
        d.put(0, 2, 1, 2);
        due.is("EXPORTED: not yet", d.call(0, 0, 0, 2, 3), UNSENDABLE);
        due.is("EXPORTED: TICKET", d.bind(0, -1, 2), 1);
        due.is("EXPORTED: it need not be SENDABLE, nor what it leads to", d.call(0, 0, 0, 2, 3), OK);
        due.is("EXPORTED: one object more", d.state(1, 0), 3);
        due.is("EXPORTED: a STUB", d.look(1, 0, 0, 1, 2), 2);
        due.is("EXPORTED: its TICKET", d.look(1, 0, 0, 1, 5), 1);
        due.is("EXPORTED: its place", d.look(1, 0, 0, 1, 6), 0);
        d.make(0, 4, 0, 3);
        d.put(0, 3, 0, 2);
        d.put(0, 3, 1, 2);
        due.is("EXPORTED: within a graph", d.call(0, 0, 0, 3, 1), OK);
        due.is("EXPORTED: two objects more", d.state(1, 0), 5);
        due.is("EXPORTED: a STUB", d.look(1, 0, 0, 2, 2), 2);
        due.is("EXPORTED: the same", d.look(1, 0, 2, 2, 5), 1);
        d.retire(0, 2);
        due.is("EXPORTED: not any more", d.call(0, 0, 0, 3, 1), UNSENDABLE);
        ends("EXPORTED: not any more", d, 1, 10);
    }

    /** "and from a STUB, nothing leads on" */
    private static void stubLeadsNowhere() {
        RemoteDesk d = desk();
        d.put(1, 0, 0, 1);
        due.is("STUB: of the object that is called", d.call(0, 0, 1, 0, 1), OK);
        due.is("STUB: one object more", d.state(1, 0), 3);
        due.is("STUB: at its own place", d.look(1, 0, 1, 1, 6), 1);
        due.is("STUB: with its TICKET", d.look(1, 0, 1, 1, 5), 1);
        due.is("STUB: nothing leads on", d.look(1, 0, 1, 2, 2), RemoteDesk.NONE);
        due.is("STUB: back", d.call(0, 0, 1, 3, 1), OK);
        due.is("STUB: of place 1", d.look(0, 1, 0, 0, 6), 1);
    }

    /** "UNSENDABLE is given for the first other one whose class is not SENDABLE." */
    private static void firstUnsendable() {
        for (int bits = 0; bits < 16; bits++) {
            RemoteDesk d = desk();
            int[] order = {3, 2, 1, 5};
            int first = -1;
            for (int i = 3; i >= 0; i--) {
                boolean isUnsendable = (bits >> i & 1) == 1;
                d.offer(4, order[i], -1, order[i] < 4 ? 3 : 0, isUnsendable ? 2 : 1, 0);
                first = isUnsendable ? order[i] : first;
            }
            d.make(0, 4, 1, 1);
            d.make(0, 4, 2, 2);
            d.put(0, 2, 1, 1);
            d.make(0, 4, 5, 1);
            d.make(0, 4, 3, 3);
            d.put(0, 3, 0, 2);
            d.put(0, 3, 1, 1);
            due.is("UNSENDABLE: case " + bits, d.call(0, 0, 0, 3, 1), bits == 0 ? OK : UNSENDABLE);
            ends("UNSENDABLE: case " + bits, d, bits == 0 ? 0 : 1, first);
            due.is("UNSENDABLE: READ", d.state(1, 0), bits == 0 ? 6 : 2);
        }
    }

    /** The same in PART 6 */
    private static void unsendableOnTheWayBack() {
        RemoteDesk d = desk();
        d.offer(5, 10, -1, 3, 0, 0);
        d.make(1, 4, 10, 2);
        d.make(1, 4, 2, 3);
        d.put(1, 3, 1, 2);
        d.put(1, 0, 0, 3);
        due.is("UNSENDABLE: what comes back", d.call(0, 0, 0, 1, 2), UNSENDABLE);
        ends("UNSENDABLE: what comes back", d, 6, 10);
        due.is("24: what the METHOD did", d.look(1, 0, 0, 0, 0), 0);
        d.put(1, 0, 0, 3);
        d.bind(1, -1, 2);
        due.is("UNSENDABLE: not if it is EXPORTED", d.call(0, 0, 0, 1, 2), OK);
        due.is("UNSENDABLE: a STUB", d.look(0, 2, 1, 1, 5), 3);
    }

    /** "SOURCE: the LOADER that has DEFINED the class, if that is 0..3" */
    private static void sourceIsTheLoader() {
        for (int c = 0; c < 4; c++) {
            RemoteDesk d = desk();
            d.withdraw(4, 4);
            d.withdraw(5, 4);
            d.offer(c, 4, -1, 0, 1, 0);
            d.annotate(0, (c + 1) % 4);
            d.annotate(1, (c + 2) % 4);
            due.is("SOURCE: make", d.make(0, c, 4, 1), OK);
            due.is("SOURCE: call", d.call(0, 0, 0, 1, 2), OK);
            due.is("SOURCE: LOADER " + c, d.look(1, 0, 0, 1, 4), c);
            due.is("SOURCE: back", d.call(0, 0, 0, 3, 2), OK);
            due.is("SOURCE: LOADER " + c + " again", d.look(0, 2, 0, 0, 4), c);
        }
    }

    /** "else the ANNOTATION of the place"; "LOADED by LOADER SOURCE (4 if there is none)" */
    private static void sourceIsTheAnnotation() {
        for (int c = -1; c < 4; c++) {
            RemoteDesk d = desk();
            d.make(0, 4, 4, 1);
            d.annotate(0, c);
            d.withdraw(5, 4);
            due.is("SOURCE: NOTFOUND by LOADER " + c, d.call(0, 0, 0, 1, 2), NOTFOUND);
            ends("SOURCE: NOTFOUND", d, 4, 4);
            for (int other = 0; other < 4; other++) {
                if (other != c) {
                    d.offer(other, 4, -1, 0, 1, 0);
                }
            }
            due.is("SOURCE: by no other LOADER than " + c, d.call(0, 0, 0, 1, 2), NOTFOUND);
            d.offer(c < 0 ? 5 : c, 4, -1, 0, 1, 0);
            due.is("SOURCE: by LOADER " + c, d.call(0, 0, 0, 1, 2), OK);
            due.is("SOURCE: it is DEFINED by", d.look(1, 0, 0, 1, 4), c < 0 ? 4 : c);
            due.is("SOURCE: one class for it", d.state(1, 1), 3);
        }
    }

    /** The same: "of the place" where it is WRITTEN, as it is then */
    private static void annotationsOfBothPlaces() {
        RemoteDesk d = desk();
        d.make(0, 4, 4, 1);
        d.withdraw(4, 4);
        d.annotate(1, 2);
        d.offer(2, 4, -1, 0, 1, 0);
        due.is("ANNOTATION: none of place 0, so LOADER 4 of place 1; 2 of place 1", d.call(0, 0, 3, 1, 2), OK);
        due.is("ANNOTATION: LOADER 4 of place 1", d.known(1, 4, 4, 0), 4);
        due.is("ANNOTATION: LOADER 2 of place 1 had nothing to do", d.known(1, 2, 4, 0), BAD);
        due.is("ANNOTATION: LOADER 2 of place 0", d.look(0, 2, 0, 0, 4), 2);
        d.annotate(1, -1);
        due.is("ANNOTATION: none any more", d.call(0, 0, 3, 1, 2), OK);
        due.is("ANNOTATION: LOADER 4 of place 0 KNOWS it", d.look(0, 2, 0, 0, 4), 4);
    }

    /** CODEBASE 3 has all that gives ERRORS: name 2 none, 8 PROHIBITED, 3 SPOILED, 5 CIRCLE, 6 SIGNERS (after 7), 0 WRONG, 1 INIT. */
    private static void offerErrors(RemoteDesk d) {
        d.offer(3, 8, -1, 0, 1, 0);
        d.offer(3, 3, -1, 0, 3, 0);
        d.offer(3, 5, 5, 0, 1, 0);
        d.offer(3, 6, -1, 0, 1, 1);
        d.offer(3, 7, -1, 0, 1, 0);
        d.offer(3, 0, -1, 1, 1, 0);
        d.offer(3, 1, -1, 0, 5, 0);
        d.prefer(3, 4095);
    }

    private static final int[] ERROR_NAMES = {2, 8, 3, 5, 6, 0, 1, 1};
    private static final int[] ERRORS = {NOTFOUND, PROHIBITED, SPOILED, CIRCLE, SIGNERS, WRONG, INIT, GONE};

    /** Two places with an EXPORTED object of name 11 each, STUBS of the other one's in VARIABLE 0, and all of name 0..8 with two NUMBERS. */
    private static RemoteDesk twoPlaces() {
        RemoteDesk d = new RemoteDesk();
        for (int p = 0; p < 2; p++) {
            for (int name = 0; name < 9; name++) {
                d.offer(4 + p, name, -1, 0, 1, 0);
            }
            d.offer(4 + p, 11, -1, 3, 1, 0);
            d.make(p, 4, 11, 0);
            d.bind(p, 0, 0);
        }
        d.let(1, 1, 0);
        d.lookup(0, 1, 0, 0);
        return d;
    }

    /** "the NAME is LOADED ..: an ERROR; WRONG if the class has another SHAPE; the class is READIED: an ERROR", in PART 4 */
    private static void readingErrorsThere() {
        RemoteDesk d = twoPlaces();
        offerErrors(d);
        d.make(1, 3, 7, 3);
        d.annotate(0, 3);
        for (int i = 0; i < ERRORS.length; i++) {
            d.make(0, 4, ERROR_NAMES[i], 1);
            due.is("PART 4: name " + ERROR_NAMES[i], d.call(0, 0, 0, 1, 1), ERRORS[i]);
            ends("PART 4: name " + ERROR_NAMES[i], d, 4, ERROR_NAMES[i]);
            due.is("PART 4: nothing is READ", d.state(1, 0), 2);
            due.is("PART 4: the METHOD is not done", d.look(1, 1, 0, 0, 0), 0);
            due.is("PART 4: the VARIABLE stays", d.look(0, 1, 0, 0, 3), ERROR_NAMES[i]);
        }
        due.is("PART 4: WRONG is not READIED", d.known(1, 3, 0, 1), 0);
        due.is("PART 4: INIT is BROKEN", d.known(1, 3, 1, 1), 2);
    }

    /** The same in PART 7 */
    private static void readingErrorsBack() {
        RemoteDesk d = twoPlaces();
        offerErrors(d);
        d.make(0, 3, 7, 3);
        d.annotate(1, 3);
        for (int i = 0; i < ERRORS.length; i++) {
            d.make(1, 4, ERROR_NAMES[i], 3);
            d.put(1, 1, 0, 3);
            due.is("PART 7: name " + ERROR_NAMES[i], d.call(0, 0, 0, 1, 3), ERRORS[i]);
            ends("PART 7: name " + ERROR_NAMES[i], d, 7, ERROR_NAMES[i]);
            due.is("PART 7: nothing is READ", d.state(0, 0), 3);
            due.is("24: what the METHOD did stays done", d.look(1, 1, 0, 0, 0), 0);
            due.is("PART 7: the VARIABLE stays", d.look(0, 3, 0, 0, 3), 7);
        }
    }

    /** "FULL if there are 12 objects, for both.": after all other ERRORS */
    private static void fullComesLast() {
        RemoteDesk d = twoPlaces();
        offerErrors(d);
        d.make(1, 3, 7, 3);
        d.annotate(0, 3);
        leaveRoom(d, 1, 0);
        for (int i = 0; i < ERRORS.length; i++) {
            d.make(0, 4, ERROR_NAMES[i], 1);
            due.is("FULL: name " + ERROR_NAMES[i] + " gives its ERROR", d.call(0, 0, 3, 1, 2), ERRORS[i]);
        }
        d.make(0, 4, 7, 1);
        due.is("FULL: name 7", d.call(0, 0, 3, 1, 2), FULL);
        ends("FULL: name 7", d, 4, 7);
        d.offer(3, 4, -1, 0, 1, 0);
        d.collect(0);
        d.make(0, 4, 4, 1);
        due.is("FULL: name 4", d.call(0, 0, 3, 1, 2), FULL);
        due.is("FULL: its class is READY", d.known(1, 3, 4, 1), 1);
        due.is("FULL: a STUB", d.call(0, 0, 3, 0, 2), FULL);
        ends("FULL: a STUB", d, 4, -1);
    }

    /** "With an ERROR reading ends; what was made by it stays" */
    private static void whatWasMadeStays() {
        RemoteDesk d = desk();
        d.offer(4, 10, -1, 0, 1, 0);
        d.make(0, 4, 5, 1);
        d.bind(0, 0, 1);
        d.make(0, 4, 10, 2);
        d.make(0, 4, 0, 3);
        d.put(0, 3, 0, 1);
        d.put(0, 3, 1, 2);
        d.tick(1);
        due.is("ERROR: at the third ITEM", d.call(0, 0, 0, 3, 3), NOTFOUND);
        ends("ERROR: at the third ITEM", d, 4, 10);
        due.is("ERROR: two were made", d.state(1, 0), 4);
        due.is("ERROR: the STUB is RENEWED", d.lease(0, 1, 1), 11);
        d.tick(3);
        due.is("ERROR: and again", d.lease(0, 1, 1), 14);
        due.is("ERROR: nothing holds them", d.collect(1), 2);
        due.is("ERROR: so the LEASE ends", d.lease(0, 1, 1), BAD);
        d.put(0, 3, 0, 2);
        d.put(0, 3, 1, 1);
        due.is("ERROR: at the second ITEM", d.call(0, 0, 0, 3, 3), NOTFOUND);
        due.is("ERROR: one was made", d.state(1, 0), 3);
        due.is("ERROR: the third ITEM, a STUB, was not", d.lease(0, 1, 1), BAD);
    }

    /** "Else CELLS get the NUMBERS, and lead to the new objects, as in the GRAPH." */
    private static void cellsAreAsInTheGraph() {
        RemoteDesk d = desk();
        d.make(0, 4, 9, 1);
        d.make(0, 4, 8, 2);
        d.put(0, 1, 0, 2);
        d.put(0, 1, 1, Integer.MIN_VALUE);
        d.put(0, 2, 0, Integer.MAX_VALUE);
        d.put(0, 2, 1, 1);
        d.make(0, 4, 0, 3);
        d.put(0, 3, 1, 1);
        long graph = d.digest(0, 3);
        due.is("CELLS: call", d.call(0, 0, 3, 3, 2), OK);
        due.is("CELLS: there and back", d.digest(0, 2), graph);
        due.is("CELLS: new objects", d.state(0, 0), 7);
        due.is("CELLS: REF 0 has nothing", d.look(0, 2, 0, 0, 0), 0);
        due.is("CELLS: NUMBER 1 of name 9", d.look(0, 2, 1, 1, 1), Integer.MIN_VALUE);
        due.is("CELLS: NUMBER 0 of name 8", d.look(0, 2, 1, 2, 0), Integer.MAX_VALUE);
        d.put(0, 1, 1, 5);
        due.is("CELLS: they are others", d.look(0, 2, 1, 1, 1), Integer.MIN_VALUE);
    }

    /** "A new STUB is RENEWED at once.", where it is READ, if it is LINKED with its own place */
    private static void newStubIsRenewed() {
        for (int cut = 0; cut < 2; cut++) {
            RemoteDesk d = desk();
            d.offer(6, 0, -1, 0, 0, 0);
            d.make(2, 4, 0, 0);
            d.bind(2, 0, 0);
            d.lookup(0, 2, 0, 1);
            d.tick(2);
            if (cut == 1) {
                d.link(2, 1, false);
            }
            due.is("RENEWED: sent on", d.call(0, 0, 3, 1, 2), OK);
            due.is("RENEWED: the LEASE of place 1", d.lease(2, 1, 1), cut == 1 ? BAD : 12);
            due.is("RENEWED: that of place 0, by what came back", d.lease(2, 1, 0), 12);
            d.tick(2);
            due.is("RENEWED: at 4", d.lease(2, 1, 1), cut == 1 ? BAD : 14);
        }
    }

    /** Promise 24: "make, call: BAD is tested first." */
    private static void badFirst() {
        RemoteDesk d = desk();
        d.link(0, 1, false);
        d.offer(4, 10, -1, 0, 0, 0);
        d.make(0, 4, 10, 1);
        leaveRoom(d, 0, 0);
        due.is("24: make, before LOADING", d.make(0, 4, 11, 4), BAD);
        due.is("24: make, before FULL", d.make(0, 4, 0, -1), BAD);
        due.is("24: call, METHOD 6 before UNSENDABLE", d.call(0, 0, 6, 1, 2), BAD);
        due.is("24: call, r 4 before UNSENDABLE", d.call(0, 0, 3, 1, 4), BAD);
        due.is("24: call, a 4 before UNLINKED", d.call(0, 0, 3, 4, 2), BAD);
        due.is("24: call, no STUB", d.call(0, 1, 3, 2, 2), BAD);
        due.is("24: call, nothing", d.call(0, 2, 3, 2, 2), BAD);
        ends("24: there was none", d, BAD, BAD);
        due.is("24: call", d.call(0, 0, 3, 1, 2), UNSENDABLE);
    }

    /** "by PARTS: 1 .. 7": of all that is wrong the first PART gives the ERROR */
    private static void partsInOrder() {
        for (int good = 0; good <= 7; good++) {
            RemoteDesk d = desk();
            d.offer(4, 10, -1, 0, good >= 1 ? 1 : 0, 0);
            d.offer(5, 11, -1, 0, good >= 6 ? 1 : 0, 0);
            d.make(0, 4, 10, 1);
            d.make(1, 4, 11, 2);
            d.put(1, 0, 0, 2);
            d.make(0, 4, 4, 2);
            if (good >= 4) {
                d.offer(5, 10, -1, 0, 1, 0);
            }
            if (good >= 7) {
                d.offer(4, 11, -1, 0, 1, 0);
            }
            if (good < 3) {
                d.retire(1, 0);
            }
            d.link(0, 1, good >= 2);
            int m = good >= 5 ? 0 : 2;
            int[] errors = {UNSENDABLE, UNLINKED, NOSUCH, NOTFOUND, MISFIT, UNSENDABLE, NOTFOUND, OK};
            int[] names = {10, -1, -1, 10, -1, 11, 11, -1};
            due.is("PART " + (good + 1), d.call(0, 0, m, 1, 2), errors[good]);
            ends("PART " + (good + 1), d, good == 7 ? 0 : good + 1, names[good]);
            due.is("PART " + (good + 1) + ": VARIABLE 2", d.look(0, 2, 0, 0, 3), good == 7 ? 11 : 4);
            due.is("PART " + (good + 1) + ": objects at 1", d.state(1, 0), good >= 4 ? 4 : 3);
            due.is("PART " + (good + 1) + ": REF 0 there", d.look(1, 0, 0, 1, 3), good >= 5 ? 10 : 11);
        }
    }

    /** "An ERROR ends it (the VARIABLE stays)", also if it holds nothing or the STUB */
    private static void variableStays() {
        RemoteDesk d = desk();
        due.is("VARIABLE: MISFIT", d.call(0, 0, 2, 1, 0), MISFIT);
        due.is("VARIABLE: the STUB stays", d.look(0, 0, 0, 0, 2), 2);
        due.is("VARIABLE: MISFIT", d.call(0, 0, 2, 0, 1), MISFIT);
        due.is("VARIABLE: nothing stays", d.digest(0, 1), 1);
        d.link(0, 1, false);
        due.is("VARIABLE: UNLINKED", d.call(0, 0, 4, 1, 0), UNLINKED);
        due.is("VARIABLE: the STUB stays", d.look(0, 0, 0, 0, 6), 1);
    }

    /** "0, 1: CELL 0, 1 of o, a REF, gets x; gives what it held."; "MISFIT if it is not as said." */
    private static void refMethods() {
        int[] names = {0, 8, 9, 4};
        for (int name : names) {
            for (int k = 0; k < 2; k++) {
                RemoteDesk d = desk();
                d.make(1, 4, name, 2);
                d.bind(1, 2, 2);
                d.lookup(0, 1, 2, 1);
                boolean isRef = name == 0 || name == 8 && k == 1 || name == 9 && k == 0;
                d.make(0, 4, 4, 2);
                d.put(0, 2, 0, 6);
                due.is("METHOD " + k + ": name " + name, d.call(0, 1, k, 2, 3), isRef ? OK : MISFIT);
                due.is("METHOD " + k + ": it held nothing", d.digest(0, 3), 1);
                due.is("METHOD " + k + ": what it holds", d.look(1, 2, 0, 0, k), isRef ? 1 : 0);
                due.is("METHOD " + k + ": the other CELL", d.look(1, 2, 0, 0, 1 - k), 0);
                due.is("METHOD " + k + ": x", d.look(1, 2, k, 1, 0), isRef ? 6 : RemoteDesk.NONE);
                due.is("METHOD " + k + ": nothing as x", d.call(0, 1, k, 3, 3), isRef ? OK : MISFIT);
                due.is("METHOD " + k + ": it held x", d.look(0, 3, 0, 0, 0), isRef ? 6 : RemoteDesk.NONE);
                due.is("METHOD " + k + ": it holds nothing", d.look(1, 2, 0, 0, k), 0);
            }
        }
    }

    /** "that of o grows by that of x (wraps); gives x" */
    private static void methodTwoWraps() {
        int[][] sums = {{Integer.MAX_VALUE, 1, Integer.MIN_VALUE}, {Integer.MIN_VALUE, -1, Integer.MAX_VALUE}, {Integer.MIN_VALUE, Integer.MIN_VALUE, 0},
            {Integer.MAX_VALUE, Integer.MAX_VALUE, -2}, {-1, 1, 0}, {0, 0, 0}, {5, Integer.MIN_VALUE, Integer.MIN_VALUE + 5}};
        for (int[] s : sums) {
            RemoteDesk d = desk();
            d.lookup(0, 1, 1, 0);
            d.put(1, 1, 0, s[0]);
            d.make(0, 4, 4, 1);
            d.put(0, 1, 0, s[1]);
            d.put(0, 1, 1, 88);
            due.is("METHOD 2", d.call(0, 0, 2, 1, 2), OK);
            due.is("METHOD 2: " + s[0] + " and " + s[1], d.look(1, 1, 0, 0, 0), s[2]);
            due.is("METHOD 2: gives x", d.look(0, 2, 0, 0, 0), s[1]);
            due.is("METHOD 2: all of it", d.look(0, 2, 0, 0, 1), 88);
        }
    }

    /** "CELLS 0 of o and of x, which is PLAIN, are NUMBERS"; "MISFIT if it is not as said." */
    private static void methodTwoMisfits() {
        int[] ofO = {0, 8, 9, 4};
        for (int o : ofO) {
            for (int x = -2; x < 10; x++) {
                RemoteDesk d = desk();
                d.make(1, 4, o, 2);
                d.bind(1, 2, 2);
                d.lookup(0, 1, 2, 1);
                if (x >= 0) {
                    d.make(0, 4, x, 2);
                }
                if (x == -1) {
                    d.let(0, 2, 0);
                }
                boolean fits = (o == 8 || o == 4) && (x == 8 || x >= 4 && x <= 7);
                due.is("METHOD 2: o of " + o + ", x of " + x, d.call(0, 1, 2, 2, 3), fits ? OK : MISFIT);
                ends("METHOD 2: o of " + o + ", x of " + x, d, fits ? 0 : 5, -1);
                due.is("24: x stays there", d.state(1, 0), x == -2 ? 3 : 4);
            }
        }
    }

    /** "3 gives x.   4 gives o." */
    private static void methodsThatGive() {
        RemoteDesk d = desk();
        d.make(0, 4, 8, 1);
        d.put(0, 1, 0, 17);
        d.put(0, 1, 1, 0);
        due.is("METHOD 3", d.call(0, 0, 3, 1, 2), OK);
        due.is("METHOD 3: x", d.digest(0, 2), d.digest(0, 1));
        due.is("METHOD 3: a STUB, too", d.call(0, 0, 3, 0, 2), OK);
        due.is("METHOD 3: a STUB", d.digest(0, 2), d.digest(0, 0));
        due.is("METHOD 4", d.call(0, 0, 4, 1, 2), OK);
        due.is("METHOD 4: o, as a STUB", d.digest(0, 2), d.digest(0, 0));
        due.is("METHOD 4: x was READ", d.state(1, 0), 7);
        due.is("METHOD 4: o does not hold it", d.look(1, 0, 0, 0, 0) + d.look(1, 0, 0, 0, 1), 0);
    }

    /** "5 gives x, but the CALL answers THROWN if all goes well" */
    private static void thrownIfAllGoesWell() {
        RemoteDesk d = desk();
        d.make(0, 4, 4, 1);
        d.put(0, 1, 1, 31);
        due.is("METHOD 5", d.call(0, 0, 5, 1, 2), THROWN);
        due.is("METHOD 5: x", d.look(0, 2, 0, 0, 1), 31);
        ends("METHOD 5", d, 0, -1);
        d.let(0, 2, -1);
        leaveRoom(d, 0, 0);
        due.is("METHOD 5: FULL in PART 7", d.call(0, 0, 5, 1, 2), FULL);
        ends("METHOD 5: FULL", d, 7, 4);
        due.is("METHOD 5: the VARIABLE stays", d.digest(0, 2), 1);
        d.collect(0);
        leaveRoom(d, 1, 0);
        due.is("METHOD 5: FULL in PART 4", d.call(0, 0, 5, 1, 2), FULL);
        ends("METHOD 5: FULL", d, 4, 4);
        d.retire(1, 0);
        due.is("METHOD 5: NOSUCH", d.call(0, 0, 5, 1, 2), NOSUCH);
        d.link(0, 1, false);
        due.is("METHOD 5: UNLINKED", d.call(0, 0, 5, 1, 2), UNLINKED);
    }

    /** Promise 24: "What was READ at q before an ERROR in part 5, 6 or 7 stays there, and what the METHOD did stays done." */
    private static void doneStaysDone() {
        RemoteDesk d = desk();
        d.make(0, 4, 4, 1);
        d.put(0, 1, 0, 3);
        due.is("24: PART 5", d.call(0, 0, 2, 1, 2), MISFIT);
        due.is("24: PART 5, READ", d.state(1, 0), 3);
        d.offer(5, 10, -1, 0, 0, 0);
        d.make(1, 4, 10, 2);
        d.put(1, 0, 0, 2);
        due.is("24: PART 6", d.call(0, 0, 0, 1, 2), UNSENDABLE);
        due.is("24: PART 6, READ", d.state(1, 0), 5);
        due.is("24: PART 6, done", d.look(1, 0, 0, 1, 0), 3);
        d.offer(5, 11, -1, 0, 1, 0);
        d.make(1, 4, 11, 2);
        d.put(1, 0, 1, 2);
        due.is("24: PART 7", d.call(0, 0, 1, 1, 2), NOTFOUND);
        due.is("24: PART 7, READ", d.state(1, 0), 7);
        due.is("24: PART 7, done", d.look(1, 0, 1, 1, 0), 3);
        d.lookup(0, 1, 1, 0);
        leaveRoom(d, 0, 0);
        due.is("24: PART 7, METHOD 2", d.call(0, 0, 2, 1, 2), FULL);
        due.is("24: PART 7, grown", d.look(1, 1, 0, 0, 0), 3);
        ends("24: PART 7, METHOD 2", d, 7, 4);
    }

    /** Promise 15: "VARIABLE r holds what comes back", also if r is a or v, or a is v */
    private static void sameVariables() {
        RemoteDesk d = desk();
        d.make(0, 4, 4, 1);
        d.put(0, 1, 0, 9);
        due.is("15: r is a", d.call(0, 0, 3, 1, 1), OK);
        due.is("15: r is a", d.look(0, 1, 0, 0, 0), 9);
        due.is("15: a is v", d.call(0, 0, 3, 0, 2), OK);
        due.is("15: a is v", d.look(0, 2, 0, 0, 2), 2);
        due.is("15: r is v, too", d.call(0, 0, 4, 0, 0), OK);
        due.is("15: r is v", d.look(0, 0, 0, 0, 5), 1);
        due.is("15: r is v", d.call(0, 0, 3, 1, 0), OK);
        due.is("15: no STUB any more", d.look(0, 0, 0, 0, 0), 9);
        due.is("15: so it is BAD", d.call(0, 0, 3, 1, 0), BAD);
    }

    /** "A CALL from place p, by a STUB of place q": both may be one, which is LINKED with itself */
    private static void ownPlace() {
        RemoteDesk d = desk();
        d.link(0, 1, false);
        d.lookup(1, 1, 0, 2);
        d.make(1, 4, 4, 3);
        d.put(1, 3, 0, 2);
        due.is("own: call", d.call(1, 2, 0, 3, 3), OK);
        due.is("own: a copy", d.look(1, 0, 0, 1, 0), 2);
        due.is("own: it held nothing", d.digest(1, 3), 1);
        due.is("own: o itself, as a STUB", d.call(1, 2, 1, 0, 3), OK);
        due.is("own: a STUB of itself", d.look(1, 0, 1, 1, 5), 1);
        leaveRoom(d, 1, 1);
        due.is("own: room for one", d.call(1, 2, 3, 0, 3), FULL);
        ends("own: there was room there, not on the way back", d, 7, -1);
    }

    /** Promise 23: "Of the latest CALL that was not BAD"; "BAD for others, or if there was none" */
    private static void faultOfTheLatest() {
        RemoteDesk d = desk();
        for (int what = -1; what < 3; what++) {
            due.is("23: there was none", d.fault(what), BAD);
        }
        due.is("23: BAD", d.call(0, 3, 3, 1, 2), BAD);
        ends("23: there was none still", d, BAD, BAD);
        due.is("23: good", d.call(0, 0, 3, 1, 2), OK);
        ends("23: good", d, 0, -1);
        d.offer(4, 10, -1, 0, 0, 0);
        d.make(0, 4, 10, 1);
        due.is("23: UNSENDABLE", d.call(0, 0, 3, 1, 2), UNSENDABLE);
        ends("23: UNSENDABLE", d, 1, 10);
        due.is("23: what -1", d.fault(-1), BAD);
        due.is("23: what 2", d.fault(2), BAD);
        due.is("23: BAD leaves it", d.call(0, 0, 6, 1, 2), BAD);
        due.is("23: make leaves it", d.make(0, 4, 11, 2), NOTFOUND);
        due.is("23: lookup leaves it", d.lookup(0, 1, 3, 2), NOSUCH);
        d.collect(0);
        d.tick(9);
        ends("23: UNSENDABLE still", d, 1, 10);
        d.link(0, 1, false);
        due.is("23: UNLINKED", d.call(0, 0, 3, 2, 2), UNLINKED);
        ends("23: UNLINKED has no name", d, 2, -1);
        d.link(0, 1, true);
        due.is("23: MISFIT", d.call(0, 0, 2, 0, 2), MISFIT);
        ends("23: MISFIT has no name", d, 5, -1);
        due.is("23: THROWN", d.call(0, 0, 5, 0, 2), THROWN);
        ends("23: THROWN is no ERROR", d, 0, -1);
    }
}
