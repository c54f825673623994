/** The boundary cases about OBJECTS, LABELS, TICKETS, links, LEASES, TIME and COLLECTING; above each test stands what the document says. */
public final class ObjectEdgesTest {
    private static final Due due = new Due();
    private static final int OK = RemoteDesk.OK, BAD = RemoteDesk.BAD, FULL = RemoteDesk.FULL, NOSUCH = RemoteDesk.NOSUCH, UNLINKED = RemoteDesk.UNLINKED;
    private static final long NONE = RemoteDesk.NONE;

    public static void main(String[] args) {
        twelveObjects();
        twelveExported();
        stubsAreObjects();
        leastFreeNumber();
        newCellsAreAsAtFirst();
        newObjectsAreNotExported();
        anyInt();
        refGetsWhatAVariableHolds();
        letNothing();
        walkToNothing();
        bindAgain();
        bindManyLabels();
        ticketsAreNotGivenTwice();
        mostTickets();
        unbindEmpty();
        retireLeavesTheLabel();
        lookupOfWhatIsNotExported();
        lookupOrder();
        links();
        withItselfAlways();
        leaseUntil();
        leaseOfEachPlace();
        renewedByANewStub();
        renewedNeedsALink();
        renewedNeedsTheTicket();
        multipleOfFour();
        allStubsOfAllPlaces();
        untilThisVeryTime();
        renewedBeforeItEnds();
        ticksOneByOne();
        mostTime();
        collectNothing();
        eachVariableHolds();
        eachLabelHolds();
        exportedWithoutLease();
        leaseOfAnyPlaceHolds();
        refsOfWhatStays();
        refsOfWhatGoes();
        chainsBothWays();
        stubLeadsNowhere();
        lastStubEndsTheLease();
        stubsOfOtherTicketsDoNot();
        leaseEndsIfLinked();
        stubOfTheOwnPlace();
        stubOfWhatIsGone();
        lookAlongEight();
        lookAtNothing();
        digestOfAllKinds();
        digestWraps();
        due.close();
    }

    /** All places have name 0 with two REFS, 1 with two NUMBERS, 2 with a REF and a NUMBER, all SENDABLE. */
    private static RemoteDesk desk() {
        RemoteDesk d = new RemoteDesk();
        for (int p = 0; p < 3; p++) {
            d.offer(4 + p, 0, -1, 3, 1, 0);
            d.offer(4 + p, 1, -1, 0, 1, 0);
            d.offer(4 + p, 2, -1, 1, 1, 0);
        }
        return d;
    }

    /** The same, and place 0 has an object with TICKET 1 that LABEL 0 alone holds. */
    private static RemoteDesk exporting() {
        RemoteDesk d = desk();
        d.make(0, 4, 0, 0);
        d.bind(0, 0, 0);
        d.let(0, 0, -1);
        return d;
    }

    private static long sum(int... ints) {
        long h = 1;
        for (int i : ints) {
            h = h * 31 + i;
        }
        return h;
    }

    /** "OBJECTS 0..11 of a place"; promise 6: "FULL at last" */
    private static void twelveObjects() {
        for (int p = 0; p < 3; p++) {
            RemoteDesk d = desk();
            for (int i = 0; i < 12; i++) {
                due.is("objects before", d.state(p, 0), i);
                due.is("object " + i, d.make(p, 4, 1, 0), OK);
            }
            d.put(p, 0, 0, 5);
            due.is("object 12", d.make(p, 4, 1, 0), FULL);
            due.is("FULL: there are 12", d.state(p, 0), 12);
            due.is("FULL: VARIABLE 0 stays", d.look(p, 0, 0, 0, 0), 5);
            due.is("FULL: LOADING comes before", d.make(p, 4, 3, 0), RemoteDesk.NOTFOUND);
            d.offer(4 + p, 3, -1, 0, 5, 0);
            due.is("FULL: READYING comes before", d.make(p, 4, 3, 0), RemoteDesk.INIT);
            due.is("FULL: GONE comes before", d.make(p, 4, 3, 0), RemoteDesk.GONE);
            due.is("FULL: the class of an object that is not made is READY", d.make(p, 4, 2, 0) * 10 + d.known(p, 4, 2, 1), FULL * 10 + 1);
            due.is("FULL: other places have room", d.make((p + 1) % 3, 4, 1, 0), OK);
        }
    }

    /** Promise 22: "how many of its objects are EXPORTED", none to all */
    private static void twelveExported() {
        RemoteDesk d = desk();
        for (int i = 1; i <= 12; i++) {
            d.make(2, 4, 1, 0);
            due.is("22: not yet", d.state(2, 3), i - 1);
            due.is("22: TICKET", d.bind(2, -1, 0), i);
            due.is("22: EXPORTED", d.state(2, 3), i);
            due.is("22: TICKETS", d.state(2, 2), i);
        }
        due.is("22: retire", d.retire(2, 0), true);
        due.is("22: EXPORTED", d.state(2, 3), 11);
        due.is("22: TICKETS", d.state(2, 2), 12);
        due.is("22: objects", d.state(2, 0), 12);
        for (int what = 0; what < 4; what++) {
            due.is("22: none at another place", d.state(1, what), 0);
        }
    }

    /** "are PLAIN .. or STUBS": 12 of both */
    private static void stubsAreObjects() {
        RemoteDesk d = exporting();
        for (int i = 0; i < 12; i++) {
            due.is("STUB " + i, d.lookup(1, 0, 0, i % 4), OK);
        }
        due.is("FULL: of STUBS, for a STUB", d.lookup(1, 0, 0, 0), FULL);
        due.is("FULL: of STUBS, for a PLAIN one", d.make(1, 4, 1, 0), FULL);
        due.is("FULL: 8 that no VARIABLE holds go", d.collect(1), 8);
        for (int i = 0; i < 8; i++) {
            due.is("8 more", d.make(1, 4, 1, 0), OK);
        }
        due.is("FULL: of both", d.lookup(1, 0, 0, 0), FULL);
        due.is("FULL: of both", d.make(1, 4, 1, 0), FULL);
    }

    /** "(a new one has the least free number)": which one it has can't be seen, but that each free one is used again */
    private static void leastFreeNumber() {
        for (int hole = 0; hole < 12; hole++) {
            RemoteDesk d = desk();
            for (int i = 0; i < 12; i++) {
                d.make(0, 4, 0, 1);
                if (i != hole) {
                    d.put(0, 1, 0, 0);
                    d.let(0, 0, 1);
                }
            }
            d.let(0, 1, -1);
            long before = d.digest(0, 0);
            due.is("a hole at " + hole, d.collect(0), 1);
            due.is("the hole is used", d.make(0, 4, 1, 1), OK);
            due.is("it is the only one", d.make(0, 4, 1, 1), FULL);
            due.is("the others are as before", d.digest(0, 0), before);
        }
    }

    /** "(a NUMBER is any int, 0 at first; a REF is an object of the place or nothing, at first nothing)": also in a number that was in use */
    private static void newCellsAreAsAtFirst() {
        RemoteDesk d = desk();
        for (int round = 0; round < 4; round++) {
            for (int v = 0; v < 3; v++) {
                int name = (v + round) % 3;
                due.is("again", d.make(0, 4, name, v), OK);
                for (int k = 0; k < 2; k++) {
                    due.is("CELL " + k + " at first", d.look(0, v, 0, 0, k), 0);
                }
                for (int k = 0; k < 2; k++) {
                    d.put(0, v, k, name == 1 || name == 2 && k == 1 ? -77 : v);
                }
            }
            for (int v = 0; v < 3; v++) {
                d.let(0, v, -1);
            }
            due.is("all go", d.collect(0), 3);
        }
        d.make(0, 4, 0, 0);
        d.bind(0, 0, 0);
        d.lookup(0, 0, 0, 1);
        d.let(0, 1, -1);
        due.is("a STUB goes", d.collect(0), 1);
        d.make(0, 4, 1, 1);
        due.is("PLAIN after a STUB", d.look(0, 1, 0, 0, 2), 1);
        due.is("PLAIN after a STUB: no TICKET", d.look(0, 1, 0, 0, 5), NONE);
        due.is("PLAIN after a STUB: no place", d.look(0, 1, 0, 0, 6), NONE);
        due.is("PLAIN after a STUB: NUMBERS", d.digest(0, 1), sum(1, 0, 0));
    }

    /** "all others go (LEASES on them, too)": a new object in their number is neither EXPORTED nor has LEASES */
    private static void newObjectsAreNotExported() {
        RemoteDesk d = exporting();
        d.lookup(1, 0, 0, 0);
        d.link(0, 1, false);
        d.unbind(0, 0);
        due.is("a LEASE keeps it", d.collect(0), 0);
        d.tick(10);
        due.is("it goes", d.collect(0), 1);
        d.make(0, 4, 0, 0);
        due.is("a new one", d.look(0, 0, 0, 0, 5), NONE);
        due.is("none EXPORTED", d.state(0, 3), 0);
        due.is("its TICKET is the next one", d.bind(0, 0, 0), 2);
        due.is("no LEASE with the old one", d.lease(0, 1, 1), BAD);
        due.is("no LEASE with the new one", d.lease(0, 2, 1), BAD);
        d.link(0, 1, true);
        d.tick(10);
        due.is("the old STUB gets none", d.lease(0, 2, 1), BAD);
        due.is("the old STUB finds none", d.call(1, 0, 4, 1, 2), NOSUCH);
    }

    /** Promise 7: "a NUMBER becomes x", any int */
    private static void anyInt() {
        RemoteDesk d = desk();
        d.make(0, 4, 1, 0);
        int[] ints = {Integer.MIN_VALUE, Integer.MIN_VALUE + 1, -1, 0, 1, 3, 4, Integer.MAX_VALUE - 1, Integer.MAX_VALUE};
        for (int x : ints) {
            for (int k = 0; k < 2; k++) {
                due.is("7: put", d.put(0, 0, k, x), true);
                due.is("7: so", d.look(0, 0, 0, 0, k), x);
                due.is("7: the other", d.put(0, 0, 1 - k, x + 1), true);
                due.is("7: stays", d.look(0, 0, 0, 0, k), x);
            }
        }
    }

    /** Promise 7: "a REF gets what VARIABLE x holds, or nothing, if x is not 0..3" */
    private static void refGetsWhatAVariableHolds() {
        for (int k = 0; k < 2; k++) {
            RemoteDesk d = desk();
            d.make(0, 4, 0, 0);
            d.make(0, 4, 1, 1);
            d.make(0, 4, 2, 3);
            int[] others = {-1, 4, 5, 12, Integer.MIN_VALUE, Integer.MAX_VALUE};
            for (int x : others) {
                due.is("7: VARIABLE 3", d.put(0, 0, k, 3), true);
                due.is("7: leads to its object", d.look(0, 0, k, 1, 3), 2);
                due.is("7: not 0..3", d.put(0, 0, k, x), true);
                due.is("7: nothing", d.look(0, 0, 0, 0, k), 0);
            }
            due.is("7: VARIABLE 0", d.put(0, 0, k, 0), true);
            due.is("7: leads to itself", d.look(0, 0, k, 1, 3), 0);
            due.is("7: VARIABLE 2, which holds nothing", d.put(0, 0, k, 2), true);
            due.is("7: nothing", d.look(0, 0, 0, 0, k), 0);
            due.is("7: the other CELL", d.look(0, 0, 0, 0, 1 - k), 0);
        }
    }

    /** Promise 8: "or nothing, if w is -1" */
    private static void letNothing() {
        for (int p = 0; p < 3; p++) {
            for (int v = 0; v < 4; v++) {
                RemoteDesk d = desk();
                for (int w = 0; w < 4; w++) {
                    d.make(p, 4, 1, w);
                    d.put(p, w, 0, w);
                }
                due.is("8: itself", d.let(p, v, v), true);
                due.is("8: holds what it held", d.look(p, v, 0, 0, 0), v);
                for (int w = 0; w < 4; w++) {
                    if (w != v) {
                        due.is("8: let", d.let(p, v, w), true);
                        due.is("8: holds what VARIABLE " + w + " holds", d.look(p, v, 0, 0, 0), w);
                    }
                }
                due.is("8: nothing", d.let(p, v, -1), true);
                due.is("8: so", d.digest(p, v), 1);
                due.is("8: the objects are there", d.state(p, 0), 4);
            }
        }
    }

    /** Promise 9: "(perhaps nothing)" */
    private static void walkToNothing() {
        RemoteDesk d = desk();
        for (int k = 0; k < 2; k++) {
            d.make(0, 4, 0, k);
            due.is("9: a REF with nothing", d.walk(0, k, k), true);
            due.is("9: holds nothing", d.look(0, k, 0, 0, 2), NONE);
            due.is("9: no REF any more", d.walk(0, k, k), false);
        }
    }

    /** Promise 10: "which is EXPORTED, if it was not: its TICKET" */
    private static void bindAgain() {
        RemoteDesk d = desk();
        d.make(0, 4, 0, 0);
        due.is("10: without a LABEL", d.bind(0, -1, 0), 1);
        for (int label = 0; label < 4; label++) {
            due.is("10: no LABEL holds it", d.unbind(0, label), false);
        }
        for (int label = -1; label < 4; label++) {
            due.is("10: the same TICKET", d.bind(0, label, 0), 1);
        }
        due.is("10: one TICKET", d.state(0, 2), 1);
        due.is("10: one EXPORTED", d.state(0, 3), 1);
        d.make(0, 4, 1, 1);
        due.is("10: another", d.bind(0, 2, 1), 2);
        due.is("10: the first one again", d.bind(0, 2, 0), 1);
    }

    /** Promise 10: "LABEL label of p holds the object", in place of another */
    private static void bindManyLabels() {
        RemoteDesk d = desk();
        for (int v = 0; v < 4; v++) {
            d.make(0, 4, 1, v);
            due.is("10: TICKET", d.bind(0, 0, v), v + 1);
        }
        for (int v = 0; v < 3; v++) {
            d.let(0, v, -1);
        }
        due.is("10: LABEL 0 holds the last one alone", d.collect(0), 3);
        d.lookup(1, 0, 0, 0);
        due.is("10: that", d.look(1, 0, 0, 0, 5), 4);
    }

    /** "each then has a TICKET, 1, 2, .. as they are given at its place" */
    private static void ticketsAreNotGivenTwice() {
        RemoteDesk d = desk();
        int[] given = new int[3];
        for (int i = 0; i < 30; i++) {
            int p = i * i % 3;
            given[p]++;
            d.make(p, 4, 0, 0);
            due.is("TICKET", d.bind(p, i % 5 - 1, 0), given[p]);
            if (i % 2 == 0) {
                due.is("TICKET: retired", d.retire(p, 0), true);
                given[p]++;
                due.is("TICKET: a new one", d.bind(p, -1, 0), given[p]);
            }
            due.is("TICKETS that " + p + " gave", d.state(p, 2), given[p]);
            d.let(p, 0, -1);
            d.collect(p);
        }
        due.is("TICKETS of place 2", d.state(2, 2), 0);
    }

    /** "An object is used for at most 512 calls": so many TICKETS can be given */
    private static void mostTickets() {
        RemoteDesk d = new RemoteDesk();
        d.offer(4, 0, -1, 0, 1, 0);
        d.make(0, 4, 0, 0);
        for (int i = 1; i <= 254; i++) {
            due.is("TICKET", d.bind(0, 0, 0), i);
            due.is("retire", d.retire(0, 0), true);
        }
        due.is("TICKET 255, by call 511", d.bind(0, 0, 0), 255);
        due.is("TICKETS, by call 512", d.state(0, 2), 255);
    }

    /** Promise 11: "false if it held nothing" */
    private static void unbindEmpty() {
        for (int p = 0; p < 3; p++) {
            for (int label = 0; label < 4; label++) {
                RemoteDesk d = desk();
                d.make(p, 4, 0, 0);
                d.bind(p, label, 0);
                for (int other = 0; other < 12; other++) {
                    boolean isIt = other == p * 4 + label;
                    if (!isIt) {
                        due.is("11: held nothing", d.unbind(other / 4, other % 4), false);
                    }
                }
                due.is("11: held it", d.unbind(p, label), true);
                due.is("11: holds nothing", d.unbind(p, label), false);
                due.is("11: EXPORTED still", d.state(p, 3), 1);
            }
        }
    }

    /** Promise 12: "is not EXPORTED any more; LEASES on it are gone" */
    private static void retireLeavesTheLabel() {
        RemoteDesk d = exporting();
        for (int p = 0; p < 3; p++) {
            d.lookup(p, 0, 0, 1);
        }
        d.make(0, 4, 0, 0);
        d.bind(0, 1, 0);
        for (int p = 0; p < 3; p++) {
            d.lookup(p, 0, 1, 2);
        }
        due.is("12: retire", d.retire(0, 0), true);
        for (int p = 0; p < 3; p++) {
            due.is("12: LEASES on it", d.lease(0, 2, p), BAD);
            due.is("12: LEASES on the other", d.lease(0, 1, p), 10);
            due.is("12: a STUB keeps its TICKET", d.look(p, 2, 0, 0, 5), 2);
        }
        due.is("12: not EXPORTED", d.look(0, 0, 0, 0, 5), NONE);
        due.is("12: EXPORTED again", d.bind(0, -1, 0), 3);
        for (int p = 0; p < 3; p++) {
            due.is("12: LEASES on it are gone", d.lease(0, 3, p), BAD);
        }
        due.is("12: and not any more", d.retire(0, 0), true);
        due.is("12: one EXPORTED", d.state(0, 3), 1);
        d.let(0, 0, -1);
        due.is("12: the LABEL holds it", d.collect(0), 0);
        due.is("12: the LABEL holds it", d.unbind(0, 1), true);
        due.is("12: then it goes", d.collect(0), 1);
    }

    /** Promise 13: "NOSUCH if it holds nothing such" */
    private static void lookupOfWhatIsNotExported() {
        RemoteDesk d = desk();
        for (int q = 0; q < 3; q++) {
            for (int label = 0; label < 4; label++) {
                due.is("13: nothing", d.lookup(1, q, label, 0), NOSUCH);
            }
        }
        d.make(0, 4, 0, 0);
        d.bind(0, 2, 0);
        d.retire(0, 0);
        due.is("13: not EXPORTED", d.lookup(1, 0, 2, 0), NOSUCH);
        due.is("13: nothing was made", d.state(1, 0), 0);
        due.is("13: EXPORTED again", d.bind(0, -1, 0), 2);
        due.is("13: the LABEL held it all the time", d.lookup(1, 0, 2, 0), OK);
        due.is("13: its TICKET now", d.look(1, 0, 0, 0, 5), 2);
    }

    /** Promise 24: "lookup: tested in this order: BAD, UNLINKED, NOSUCH, FULL" */
    private static void lookupOrder() {
        for (int wrong = 0; wrong < 16; wrong++) {
            RemoteDesk d = desk();
            d.make(0, 4, 0, 0);
            d.make(1, 4, 0, 0);
            boolean isBad = (wrong & 1) != 0;
            boolean isCut = (wrong & 2) != 0;
            boolean isEmpty = (wrong & 4) != 0;
            boolean isFull = (wrong & 8) != 0;
            if (!isEmpty) {
                d.bind(0, 3, 0);
            }
            for (int i = 0; i < 11 && isFull; i++) {
                d.make(1, 4, 0, 0);
            }
            if (isCut) {
                d.link(1, 0, false);
            }
            int want = isBad ? BAD : isCut ? UNLINKED : isEmpty ? NOSUCH : isFull ? FULL : OK;
            due.is("24: order, case " + wrong, d.lookup(1, 0, 3, isBad ? 4 : 0), want);
            due.is("24: VARIABLE 0 holds a STUB", d.look(1, 0, 0, 0, 2), want == OK ? 2 : 1);
            due.is("24: a LEASE", d.lease(0, 1, 1), want == OK ? 10 : BAD);
        }
    }

    /** "Places are LINKED by two or not, at first all are" */
    private static void links() {
        int[][] pairs = {{0, 1}, {0, 2}, {1, 2}};
        for (int cut = 0; cut < 8; cut++) {
            RemoteDesk d = desk();
            for (int i = 0; i < 3; i++) {
                if ((cut >> i & 1) == 1) {
                    due.is("14: cut", d.link(pairs[i][0], pairs[i][1], false), true);
                }
            }
            for (int i = 0; i < 3; i++) {
                int a = pairs[i][0];
                int b = pairs[i][1];
                boolean isCut = (cut >> i & 1) == 1;
                due.is("14: one way", d.lookup(a, b, 0, 0), isCut ? UNLINKED : NOSUCH);
                due.is("14: the other way", d.lookup(b, a, 0, 0), isCut ? UNLINKED : NOSUCH);
                due.is("14: they are so", d.link(a, b, !isCut), false);
                due.is("14: they are so", d.link(b, a, !isCut), false);
                due.is("14: the other", d.link(b, a, isCut), true);
                due.is("14: and back", d.link(a, b, !isCut), true);
            }
        }
    }

    /** "each is with itself always" */
    private static void withItselfAlways() {
        RemoteDesk d = exporting();
        d.link(0, 1, false);
        d.link(0, 2, false);
        d.link(1, 2, false);
        for (int p = 0; p < 3; p++) {
            due.is("itself: off", d.link(p, p, false), false);
            due.is("itself: on", d.link(p, p, true), false);
            due.is("itself: lookup", d.lookup(p, p, 0, 1), p == 0 ? OK : NOSUCH);
        }
        due.is("itself: call", d.call(0, 1, 4, 2, 3), OK);
        d.tick(8);
        due.is("itself: RENEWED", d.lease(0, 1, 0), 18);
        d.let(0, 1, -1);
        d.let(0, 3, -1);
        due.is("itself: both STUBS go", d.collect(0), 2);
        due.is("itself: the LEASE ends", d.lease(0, 1, 0), BAD);
    }

    /** "the LEASE of the former on it is until TIME + 10 from then on" */
    private static void leaseUntil() {
        for (int time = 0; time < 13; time++) {
            RemoteDesk d = exporting();
            d.tick(time);
            d.lookup(1, 0, 0, 0);
            due.is("21: LEASE at " + time, d.lease(0, 1, 1), time + 10);
            due.is("21: not of others", d.lease(0, 1, 2), BAD);
            due.is("21: not of its own", d.lease(0, 1, 0), BAD);
        }
    }

    /** Promise 21: "BAD if it has none" */
    private static void leaseOfEachPlace() {
        for (int q = 0; q < 3; q++) {
            for (int p = 0; p < 3; p++) {
                RemoteDesk d = desk();
                for (int i = 0; i < 3; i++) {
                    for (int v = 0; v < 2; v++) {
                        d.make(i, 4, 1, v);
                        d.bind(i, v, v);
                    }
                }
                d.lookup(p, q, 1, 3);
                for (int i = 0; i < 9; i++) {
                    for (int ticket = -1; ticket < 4; ticket++) {
                        boolean isIt = i / 3 == q && i % 3 == p && ticket == 2;
                        due.is("21: lease(" + i / 3 + ", " + ticket + ", " + i % 3 + ")", d.lease(i / 3, ticket, i % 3), isIt ? 10 : BAD);
                    }
                }
                due.is("21: the least int", d.lease(q, Integer.MIN_VALUE, p), BAD);
                due.is("21: the greatest int", d.lease(q, Integer.MAX_VALUE, p), BAD);
            }
        }
    }

    /** "A new STUB is RENEWED at once." */
    private static void renewedByANewStub() {
        RemoteDesk d = exporting();
        d.lookup(1, 0, 0, 0);
        d.tick(3);
        due.is("RENEWED: not by time alone", d.lease(0, 1, 1), 10);
        d.lookup(1, 0, 0, 1);
        due.is("RENEWED: by another STUB", d.lease(0, 1, 1), 13);
        d.lookup(2, 0, 0, 0);
        due.is("RENEWED: at place 2", d.lease(0, 1, 2), 13);
        d.let(1, 1, -1);
        d.collect(1);
        due.is("RENEWED: one goes, one stays", d.lease(0, 1, 1), 13);
        d.call(1, 0, 4, 3, 2);
        due.is("RENEWED: by READING", d.lease(0, 1, 1), 13);
        d.tick(6);
        d.call(1, 0, 4, 3, 2);
        due.is("RENEWED: by READING at 9", d.lease(0, 1, 1), 19);
        due.is("RENEWED: place 2 at 8", d.lease(0, 1, 2), 18);
    }

    /** "A STUB is RENEWED: if its place is LINKED with the STUB's" */
    private static void renewedNeedsALink() {
        RemoteDesk d = exporting();
        d.lookup(1, 0, 0, 0);
        d.lookup(2, 0, 0, 0);
        d.make(1, 4, 0, 1);
        d.bind(1, 0, 1);
        d.lookup(2, 1, 0, 1);
        d.link(1, 0, false);
        d.tick(4);
        due.is("RENEWED: not without a link", d.lease(0, 1, 1), 10);
        due.is("RENEWED: with one", d.lease(0, 1, 2), 14);
        due.is("RENEWED: by READING at 1", d.call(2, 1, 0, 0, 3), OK);
        due.is("RENEWED: not by a new STUB without a link", d.lease(0, 1, 1), 10);
        d.link(0, 1, true);
        d.tick(3);
        due.is("RENEWED: not by the link", d.lease(0, 1, 1), 10);
        d.tick(1);
        due.is("RENEWED: at the next multiple of 4", d.lease(0, 1, 1), 18);
    }

    /** "and this has an object EXPORTED with the TICKET" */
    private static void renewedNeedsTheTicket() {
        RemoteDesk d = desk();
        d.make(0, 4, 0, 0);
        d.bind(0, 0, 0);
        d.lookup(1, 0, 0, 0);
        d.make(2, 4, 0, 0);
        d.bind(2, 0, 0);
        d.lookup(1, 2, 0, 1);
        d.retire(0, 0);
        d.bind(0, 0, 0);
        due.is("RENEWED: a STUB of TICKET 1 is sent to place 2", d.call(1, 1, 0, 0, 2), OK);
        due.is("RENEWED: it is there", d.look(2, 0, 0, 1, 5), 1);
        for (int time = 1; time < 9; time++) {
            d.tick(1);
            for (int p = 0; p < 3; p++) {
                due.is("RENEWED: no LEASE with TICKET 1", d.lease(0, 1, p), BAD);
                due.is("RENEWED: none with TICKET 2", d.lease(0, 2, p), BAD);
            }
        }
    }

    /** "if it is a multiple of 4, all STUBS of all places are RENEWED" */
    private static void multipleOfFour() {
        RemoteDesk d = exporting();
        for (int p = 0; p < 3; p++) {
            d.lookup(p, 0, 0, 0);
        }
        for (int time = 1; time <= 40; time++) {
            due.is("17: TIME", d.tick(1), time);
            for (int p = 0; p < 3; p++) {
                due.is("17: LEASE at " + time, d.lease(0, 1, p), time / 4 * 4 + 10);
            }
        }
    }

    /** The same: "all STUBS of all places", each of another TICKET */
    private static void allStubsOfAllPlaces() {
        for (int p = 0; p < 3; p++) {
            for (int q = 0; q < 3; q++) {
                RemoteDesk d = desk();
                int stubs = p == q ? 6 : 12;
                for (int i = 0; i < stubs; i++) {
                    d.make(q, 4, 1, 0);
                    d.bind(q, 0, 0);
                    due.is("17: a STUB", d.lookup(p, q, 0, 1), OK);
                }
                due.is("17: TIME", d.tick(4), 4);
                for (int ticket = 1; ticket <= stubs; ticket++) {
                    due.is("17: the STUB of TICKET " + ticket, d.lease(q, ticket, p), 14);
                }
                due.is("17: all are EXPORTED", d.state(q, 3), stubs);
            }
        }
    }

    /** "then LEASES end that are until this TIME" */
    private static void untilThisVeryTime() {
        for (int start = 0; start < 8; start++) {
            RemoteDesk d = exporting();
            d.tick(start);
            d.lookup(1, 0, 0, 0);
            d.link(0, 1, false);
            d.tick(9);
            due.is("17: a LEASE one TICK before", d.lease(0, 1, 1), start + 10);
            d.unbind(0, 0);
            due.is("16: keeps the object", d.collect(0), 0);
            d.tick(1);
            due.is("17: a LEASE until this very TIME", d.lease(0, 1, 1), BAD);
            due.is("16: so the object goes", d.collect(0), 1);
        }
    }

    /** The same: "then", after all STUBS are RENEWED */
    private static void renewedBeforeItEnds() {
        for (int start = 0; start < 8; start++) {
            RemoteDesk d = exporting();
            d.tick(start);
            d.lookup(1, 0, 0, 0);
            d.link(0, 1, false);
            d.tick(9);
            d.link(0, 1, true);
            d.tick(1);
            due.is("17: from " + start, d.lease(0, 1, 1), (start + 10) % 4 == 0 ? start + 20 : BAD);
        }
    }

    /** Promise 17: "n TICKS, 0..400: the TIME" */
    private static void ticksOneByOne() {
        for (int n : new int[] {0, 1, 2, 3, 4, 5, 9, 10, 11, 12, 13, 399, 400}) {
            RemoteDesk a = exporting();
            RemoteDesk b = exporting();
            for (RemoteDesk d : new RemoteDesk[] {a, b}) {
                d.tick(2);
                d.lookup(1, 0, 0, 0);
                d.lookup(2, 0, 0, 0);
                d.link(0, 2, false);
            }
            due.is("17: at once", a.tick(n), 2 + n);
            for (int i = 0; i < n; i++) {
                b.tick(1);
            }
            due.is("17: one by one", b.tick(0), 2 + n);
            for (int p = 1; p < 3; p++) {
                due.is("17: LEASES after " + n, a.lease(0, 1, p), b.lease(0, 1, p));
            }
            due.is("17: place 2 without a link", a.lease(0, 1, 2), n < 10 ? 12 : BAD);
        }
    }

    /** "An object is used for at most 512 calls": so long TIME can grow */
    private static void mostTime() {
        RemoteDesk d = new RemoteDesk();
        d.offer(4, 0, -1, 0, 1, 0);
        d.make(0, 4, 0, 0);
        d.bind(0, 0, 0);
        d.lookup(1, 0, 0, 0);
        for (int i = 1; i <= 507; i++) {
            due.is("17: TIME", d.tick(400), 400 * i);
        }
        due.is("21: LEASE, by call 512", d.lease(0, 1, 1), 507 * 400 + 10);
    }

    /** Promise 16: "how many objects went", none */
    private static void collectNothing() {
        for (int p = 0; p < 3; p++) {
            RemoteDesk d = desk();
            due.is("16: no objects", d.collect(p), 0);
            for (int i = 0; i < 12; i++) {
                d.make(p, 4, 0, 0);
            }
            due.is("16: other places", d.collect((p + 1) % 3), 0);
            due.is("16: other places", d.collect((p + 2) % 3), 0);
            due.is("16: all but one", d.collect(p), 11);
            due.is("16: none more", d.collect(p), 0);
            d.let(p, 0, -1);
            due.is("16: the last one", d.collect(p), 1);
            due.is("16: none", d.state(p, 0), 0);
            for (int i = 0; i < 12; i++) {
                d.make(p, 4, 0, 0);
            }
            d.let(p, 0, -1);
            due.is("16: all 12", d.collect(p), 12);
        }
    }

    /** "objects stay that VARIABLES .. hold" */
    private static void eachVariableHolds() {
        for (int v = 0; v < 4; v++) {
            RemoteDesk d = desk();
            for (int p = 0; p < 3; p++) {
                d.make(p, 4, 1, v);
            }
            for (int p = 0; p < 3; p++) {
                due.is("16: VARIABLE " + v + " holds it", d.collect(p), 0);
                d.let(p, v, -1);
                due.is("16: not any more", d.collect(p), 1);
            }
        }
    }

    /** "or LABELS hold": EXPORTED or not, with a LEASE or without */
    private static void eachLabelHolds() {
        for (int label = 0; label < 4; label++) {
            for (int p = 0; p < 3; p++) {
                RemoteDesk d = desk();
                d.make(p, 4, 1, 0);
                d.bind(p, label, 0);
                d.let(p, 0, -1);
                due.is("16: LABEL " + label + " holds it", d.collect(p), 0);
                d.unbind(p, label);
                due.is("16: not any more", d.collect(p), 1);
                d.make(p, 4, 1, 0);
                d.bind(p, label, 0);
                d.retire(p, 0);
                d.let(p, 0, -1);
                due.is("16: LABEL " + label + " holds what is not EXPORTED", d.collect(p), 0);
                d.unbind(p, label);
                due.is("16: not any more", d.collect(p), 1);
            }
        }
    }

    /** "that are EXPORTED and on which there is a LEASE": EXPORTED alone is not enough */
    private static void exportedWithoutLease() {
        RemoteDesk d = desk();
        d.make(0, 4, 1, 0);
        due.is("16: EXPORTED", d.bind(0, -1, 0), 1);
        d.let(0, 0, -1);
        due.is("16: without a LEASE", d.collect(0), 1);
        due.is("16: none EXPORTED", d.state(0, 3), 0);
        due.is("16: one TICKET was given", d.state(0, 2), 1);
    }

    /** The same: a LEASE of any place */
    private static void leaseOfAnyPlaceHolds() {
        for (int q = 0; q < 3; q++) {
            for (int p = 0; p < 3; p++) {
                RemoteDesk d = desk();
                d.make(q, 4, 1, 0);
                d.bind(q, 0, 0);
                d.lookup(p, q, 0, 1);
                d.let(q, 0, -1);
                d.unbind(q, 0);
                due.is("16: a LEASE of " + p + " on one of " + q, d.collect(q), 0);
                due.is("16: a CALL finds it", d.call(p, 1, 4, 2, 3), OK);
                d.let(p, 1, -1);
                d.let(p, 3, -1);
                due.is("16: the STUBS go", d.collect(p), 2);
                due.is("16: so it goes", d.collect(q), 1);
                due.is("16: all went", d.state(q, 0), 0);
            }
        }
    }

    /** "and to which a REF of one that stays leads" */
    private static void refsOfWhatStays() {
        for (int k = 0; k < 2; k++) {
            RemoteDesk d = desk();
            d.make(0, 4, 0, 0);
            d.make(0, 4, 0, 1);
            d.make(0, 4, 1, 2);
            d.put(0, 0, k, 1);
            d.put(0, 1, 1 - k, 2);
            d.bind(0, 3, 0);
            for (int v = 0; v < 4; v++) {
                d.let(0, v, -1);
            }
            due.is("16: from a LABEL", d.collect(0), 0);
            d.lookup(2, 0, 3, 0);
            d.unbind(0, 3);
            due.is("16: from one with a LEASE", d.collect(0), 0);
            d.let(2, 0, -1);
            d.collect(2);
            due.is("16: all three go", d.collect(0), 3);
        }
    }

    /** The same: a REF of one that goes leads nowhere, and a NUMBER never does */
    private static void refsOfWhatGoes() {
        RemoteDesk d = desk();
        d.make(0, 4, 0, 0);
        d.make(0, 4, 0, 1);
        d.put(0, 0, 0, 1);
        d.put(0, 1, 0, 0);
        d.put(0, 1, 1, 1);
        d.let(0, 0, -1);
        d.let(0, 1, -1);
        due.is("16: a circle goes", d.collect(0), 2);
        for (int number = 0; number < 12; number++) {
            d.make(0, 4, 1, 0);
        }
        d.make(1, 4, 1, 0);
        for (int number = 0; number < 12; number++) {
            d.put(0, 0, 0, number);
            d.put(0, 0, 1, number);
            due.is("16: a NUMBER leads nowhere", d.collect(0), number == 0 ? 11 : 0);
        }
        due.is("16: one is left", d.state(0, 0), 1);
    }

    /** The same, along twelve objects, from the least number up and from the greatest down */
    private static void chainsBothWays() {
        for (int k = 0; k < 2; k++) {
            RemoteDesk d = desk();
            for (int i = 0; i < 12; i++) {
                d.make(0, 4, 0, 1);
                d.put(0, 1, k, 0);
                d.let(0, 0, 1);
            }
            d.let(0, 1, -1);
            due.is("16: the last made leads to the first", d.collect(0), 0);
            d.let(0, 0, -1);
            due.is("16: all go", d.collect(0), 12);
            d.make(0, 4, 0, 0);
            d.let(0, 1, 0);
            for (int i = 0; i < 11; i++) {
                d.make(0, 4, 0, 2);
                d.put(0, 1, k, 2);
                d.let(0, 1, 2);
            }
            d.let(0, 1, -1);
            d.let(0, 2, -1);
            due.is("16: the first made leads to the last", d.collect(0), 0);
            for (int i = 11; i > 0; i--) {
                d.walk(0, 0, k);
                due.is("16: one by one", d.collect(0), 1);
                due.is("16: are left", d.state(0, 0), i);
            }
        }
    }

    /** The same: a STUB stays, but not what it stands for */
    private static void stubLeadsNowhere() {
        RemoteDesk d = exporting();
        d.make(0, 4, 1, 1);
        d.bind(0, 1, 1);
        d.lookup(0, 0, 1, 2);
        d.let(0, 1, -1);
        d.unbind(0, 1);
        due.is("16: the LEASE keeps it", d.collect(0), 0);
        d.lookup(1, 0, 0, 0);
        d.make(1, 4, 2, 1);
        d.put(1, 1, 0, 0);
        d.let(1, 0, -1);
        due.is("16: a REF leads to a STUB", d.collect(1), 0);
        d.link(0, 1, false);
        d.tick(10);
        d.unbind(0, 0);
        due.is("16: a STUB without a LEASE does not keep it", d.collect(0), 1);
        due.is("16: the STUB is there", d.look(1, 1, 0, 1, 2), 2);
    }

    /** "For each place and TICKET of which a STUB went, and none stays here, the LEASE of this place on the object ends" */
    private static void lastStubEndsTheLease() {
        for (int stay = 0; stay < 4; stay++) {
            RemoteDesk d = exporting();
            for (int v = 0; v < 3; v++) {
                d.lookup(1, 0, 0, v);
                d.lookup(2, 0, 0, v);
            }
            for (int v = stay; v < 3; v++) {
                d.let(1, v, -1);
            }
            due.is("16: STUBS that go", d.collect(1), 3 - stay);
            due.is("16: of three " + stay + " stay", d.lease(0, 1, 1), stay == 0 ? BAD : 10);
            due.is("16: the LEASE of another place", d.lease(0, 1, 2), 10);
        }
    }

    /** The same: for each place and TICKET */
    private static void stubsOfOtherTicketsDoNot() {
        for (int goes = 0; goes < 3; goes++) {
            RemoteDesk d = desk();
            for (int v = 0; v < 2; v++) {
                d.make(0, 4, 1, v);
                d.bind(0, v, v);
            }
            d.make(2, 4, 1, 0);
            d.bind(2, 0, 0);
            d.lookup(1, 0, 0, 0);
            d.lookup(1, 0, 1, 1);
            d.lookup(1, 2, 0, 2);
            d.let(1, goes, -1);
            due.is("16: one STUB goes", d.collect(1), 1);
            due.is("16: TICKET 1 of place 0", d.lease(0, 1, 1), goes == 0 ? BAD : 10);
            due.is("16: TICKET 2 of place 0", d.lease(0, 2, 1), goes == 1 ? BAD : 10);
            due.is("16: TICKET 1 of place 2", d.lease(2, 1, 1), goes == 2 ? BAD : 10);
        }
    }

    /** "if both are LINKED" */
    private static void leaseEndsIfLinked() {
        for (int q = 0; q < 3; q++) {
            for (int p = 0; p < 3; p++) {
                RemoteDesk d = desk();
                d.make(q, 4, 1, 0);
                d.bind(q, 0, 0);
                d.lookup(p, q, 0, 1);
                d.let(p, 1, -1);
                d.link(p, q, false);
                due.is("16: goes", d.collect(p), 1);
                due.is("16: LEASE of " + p + " on one of " + q, d.lease(q, 1, p), p == q ? BAD : 10);
                d.link(p, q, true);
                due.is("16: no STUB goes", d.collect(p), 0);
                due.is("16: no LEASE ends later by that", d.lease(q, 1, p), p == q ? BAD : 10);
                d.tick(9);
                due.is("16: until its TIME", d.lease(q, 1, p), p == q ? BAD : 10);
                d.tick(1);
                due.is("16: then it ends", d.lease(q, 1, p), BAD);
            }
        }
    }

    /** The same, where the STUB stands for an object of the very place: the LEASE was there when it was COLLECTED */
    private static void stubOfTheOwnPlace() {
        RemoteDesk d = exporting();
        d.lookup(0, 0, 0, 1);
        d.let(0, 1, -1);
        d.unbind(0, 0);
        due.is("16: the STUB goes, the object stays", d.collect(0), 1);
        due.is("16: its LEASE ended", d.lease(0, 1, 0), BAD);
        due.is("16: it is EXPORTED", d.state(0, 3), 1);
        due.is("16: now it goes", d.collect(0), 1);
        d.make(0, 4, 0, 0);
        d.bind(0, 0, 0);
        d.lookup(0, 0, 0, 1);
        d.put(0, 0, 0, 1);
        d.let(0, 0, -1);
        d.let(0, 1, -1);
        d.unbind(0, 0);
        d.tick(400);
        due.is("16: a STUB that its own object leads to keeps both", d.collect(0), 0);
        due.is("16: for all TIME", d.lease(0, 2, 0), 410);
    }

    /** The same: "the LEASE .. on the object", where there is none any more */
    private static void stubOfWhatIsGone() {
        RemoteDesk d = desk();
        d.make(0, 4, 1, 0);
        d.bind(0, 0, 0);
        d.lookup(1, 0, 0, 0);
        d.retire(0, 0);
        due.is("16: the next TICKET", d.bind(0, 0, 0), 2);
        d.lookup(1, 0, 0, 1);
        d.let(1, 0, -1);
        due.is("16: a STUB of a TICKET that is gone", d.collect(1), 1);
        due.is("16: the LEASE with the new one stays", d.lease(0, 2, 1), 10);
    }

    /** Promise 18: "along n (0..8) REFS, the lowest bit of path the first" */
    private static void lookAlongEight() {
        RemoteDesk d = desk();
        d.make(0, 4, 1, 0);
        d.put(0, 0, 0, 99);
        int path = 0;
        for (int i = 0; i < 8; i++) {
            int k = i % 3 == 0 ? 1 : 0;
            d.make(0, 4, 0, 1);
            d.put(0, 1, k, 0);
            d.let(0, 0, 1);
            path = path << 1 | k;
        }
        due.is("18: eight REFS", d.look(0, 0, path, 8, 0), 99);
        due.is("18: seven", d.look(0, 0, path, 7, 3), 0);
        due.is("18: nine", d.look(0, 0, path, 9, 0), NONE);
        due.is("18: none", d.look(0, 0, path, 0, 2), 1);
        for (int bit = 0; bit < 8; bit++) {
            due.is("18: bit " + bit + " is another", d.look(0, 0, path ^ 1 << bit, 8, 0), NONE);
        }
        for (int bit = 8; bit < 32; bit++) {
            due.is("18: bit " + bit + " is beyond", d.look(0, 0, path ^ 1 << bit, 8, 0), 99);
        }
        due.is("18: along a NUMBER at the end", d.look(0, 0, path >> 1, 8, 2), NONE);
    }

    /** Promise 18: "NONE if there is no such thing" */
    private static void lookAtNothing() {
        RemoteDesk d = exporting();
        d.make(1, 4, 0, 0);
        for (int what = 0; what < 7; what++) {
            due.is("18: nothing is held", d.look(1, 1, 0, 0, what), NONE);
            due.is("18: REF 0 has nothing", d.look(1, 0, 0, 1, what), NONE);
            due.is("18: REF 1 has nothing", d.look(1, 0, 1, 1, what), NONE);
        }
        d.lookup(1, 0, 0, 2);
        d.put(1, 0, 1, 2);
        long[] stub = {NONE, NONE, 2, NONE, NONE, 1, 0};
        long[] plain = {0, 1, 1, 0, 4, NONE, NONE};
        for (int what = 0; what < 7; what++) {
            due.is("18: a STUB, what " + what, d.look(1, 0, 1, 1, what), stub[what]);
            due.is("18: PLAIN, what " + what, d.look(1, 0, 1, 0, what), plain[what]);
            due.is("18: from a STUB, REF 0", d.look(1, 2, 0, 1, what), NONE);
            due.is("18: from a STUB, REF 1", d.look(1, 2, 1, 1, what), NONE);
        }
        d.bind(1, -1, 0);
        due.is("18: EXPORTED without a LABEL", d.look(1, 0, 0, 0, 5), 1);
    }

    /** Promise 24: "from nothing it is 1"; "for a STUB there come two ints, 100 + its place and then its TICKET" */
    private static void digestOfAllKinds() {
        RemoteDesk d = desk();
        due.is("19: nothing", d.digest(0, 0), 1);
        d.make(0, 4, 1, 0);
        d.put(0, 0, 0, Integer.MIN_VALUE);
        d.put(0, 0, 1, Integer.MIN_VALUE);
        due.is("19: the least NUMBERS", d.digest(0, 0), sum(1, Integer.MIN_VALUE, Integer.MIN_VALUE));
        for (int p = 0; p < 3; p++) {
            d.make(p, 4, 1, 1);
            for (int i = 0; i <= p; i++) {
                d.retire(p, 1);
                d.bind(p, 0, 1);
            }
            d.lookup(0, p, 0, 2);
            due.is("19: a STUB of place " + p, d.digest(0, 2), sum(100 + p, p + 1));
            d.make(0, 4, 0, 3);
            d.put(0, 3, 0, 2);
            d.put(0, 3, 1, 2);
            due.is("19: each object once", d.digest(0, 3), sum(0, 1, 1, 100 + p, p + 1));
        }
        d.put(0, 3, 0, 3);
        due.is("19: itself is number 0", d.digest(0, 3), sum(0, 0, 1, 102, 3));
        d.bind(0, 2, 3);
        due.is("19: EXPORTED, as it is", d.digest(0, 3), sum(0, 0, 1, 102, 3));
    }

    /** The same: "Longs wrap." for a chain of twelve */
    private static void digestWraps() {
        RemoteDesk d = desk();
        int[] ints = new int[36];
        for (int i = 0; i < 12; i++) {
            d.make(1, 4, 2, 1);
            d.put(1, 1, 0, 0);
            d.put(1, 1, 1, Integer.MAX_VALUE - i);
            d.let(1, 0, 1);
            ints[33 - 3 * i] = 2;
            ints[34 - 3 * i] = i == 0 ? -1 : 12 - i;
            ints[35 - 3 * i] = Integer.MAX_VALUE - i;
        }
        due.is("19: 36 ints wrap", d.digest(1, 0), sum(ints));
        due.is("19: asked again", d.digest(1, 0), sum(ints));
    }
}
