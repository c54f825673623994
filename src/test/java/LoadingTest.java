/** Promises 1 to 6 and 20: DEFINITIONS, LOADING, READYING and making. */
public final class LoadingTest {
    private static final Due due = new Due();

    public static void main(String[] args) {
        promise1();
        promise1Annotation();
        promise2();
        promise3();
        promise4();
        promise5();
        promise6Numbers();
        promise6Full();
        loadingOrder();
        loadingByTwoLoaders();
        loadingCircles();
        loadingSigners();
        longestChain();
        readying();
        promise20();
        due.close();
    }

    private static void promise1() {
        RemoteDesk d = new RemoteDesk();
        for (int p = 0; p < 3; p++) {
            for (int what = 0; what < 4; what++) {
                due.is("1: state(" + p + ", " + what + ")", d.state(p, what), 0);
            }
            for (int v = 0; v < 4; v++) {
                due.is("1: digest(" + p + ", " + v + ")", d.digest(p, v), 1);
                due.is("1: look", d.look(p, v, 0, 0, 2), RemoteDesk.NONE);
                due.is("1: unbind", d.unbind(p, v), false);
            }
            for (int q = 0; q < 3; q++) {
                due.is("1: all are LINKED", d.link(p, q, true), false);
                due.is("1: labels are empty", d.lookup(p, q, 0, 0), RemoteDesk.NOSUCH);
            }
            for (int loader = 0; loader < 5; loader++) {
                for (int name = 0; name < 12; name++) {
                    due.is("1: known", d.known(p, loader, name, 0), RemoteDesk.BAD);
                    due.is("1: make", d.make(p, loader, name, 0), RemoteDesk.NOTFOUND);
                }
            }
        }
        for (int at = 0; at < 7; at++) {
            for (int name = 0; name < 12; name++) {
                due.is("1: withdraw", d.withdraw(at, name), false);
            }
        }
        due.is("1: tick", d.tick(0), 0);
        due.is("1: fault(0)", d.fault(0), RemoteDesk.BAD);
        due.is("1: fault(1)", d.fault(1), RemoteDesk.BAD);
    }

    private static void promise1Annotation() {
        for (int p = 0; p < 3; p++) {
            RemoteDesk d = new RemoteDesk();
            d.offer(0, 0, -1, 1, 1, 0);
            d.prefer(0, 1);
            d.offer(4 + p, 0, -1, 1, 1, 0);
            d.make(p, 4, 0, 0);
            d.bind(p, 0, 0);
            d.lookup(p, p, 0, 1);
            d.make(p, 4, 0, 2);
            due.is("1: call", d.call(p, 1, 3, 2, 3), RemoteDesk.OK);
            due.is("1: no ANNOTATION, so LOADER 4", d.look(p, 3, 0, 0, 4), 4);
        }
    }

    private static void promise2() {
        RemoteDesk d = new RemoteDesk();
        int[][] wrong = {
            {-1, 0, -1, 0, 0, 0}, {7, 0, -1, 0, 0, 0}, {0, -1, -1, 0, 0, 0}, {0, 12, -1, 0, 0, 0},
            {0, 0, -2, 0, 0, 0}, {0, 0, 12, 0, 0, 0}, {0, 0, -1, -1, 0, 0}, {0, 0, -1, 4, 0, 0},
            {0, 0, -1, 0, -1, 0}, {0, 0, -1, 0, 8, 0}, {0, 0, -1, 0, 0, -1}, {0, 0, -1, 0, 0, 4},
            {Integer.MIN_VALUE, 0, -1, 0, 0, 0}, {0, Integer.MAX_VALUE, -1, 0, 0, 0}};
        for (int[] w : wrong) {
            due.is("2: offer with a wrong number", d.offer(w[0], w[1], w[2], w[3], w[4], w[5]), false);
        }
        due.is("2: nothing was offered", d.make(0, 0, 0, 0), RemoteDesk.NOTFOUND);
        due.is("2: least numbers", d.offer(0, 0, -1, 0, 0, 0), true);
        due.is("2: greatest numbers", d.offer(6, 11, 11, 3, 7, 3), true);
        due.is("2: withdraw of the latter", d.withdraw(6, 11), true);
        due.is("2: place 0", d.offer(4, 1, -1, 0, 1, 0), true);
        due.is("2: instead of another", d.offer(4, 1, -1, 3, 1, 2), true);
        due.is("2: wrong number leaves it", d.offer(4, 1, -1, 4, 1, 1), false);
        due.is("2: make", d.make(0, 4, 1, 0), RemoteDesk.OK);
        due.is("2: SHAPE of the later one", d.known(0, 4, 1, 2), 3);
        due.is("2: SIGNER of the later one", d.known(0, 4, 1, 4), 2);
        due.is("2: offered at place 0 alone", d.make(1, 4, 1, 0), RemoteDesk.NOTFOUND);
        due.is("2: a class stays as it was DEFINED", d.offer(4, 1, -1, 0, 0, 0), true);
        due.is("2: make", d.make(0, 4, 1, 0), RemoteDesk.OK);
        due.is("2: SHAPE as DEFINED", d.known(0, 4, 1, 2), 3);
    }

    private static void promise3() {
        RemoteDesk d = new RemoteDesk();
        d.offer(0, 3, -1, 0, 1, 0);
        d.offer(5, 3, -1, 0, 1, 0);
        due.is("3: of a codebase", d.withdraw(0, 3), true);
        due.is("3: again", d.withdraw(0, 3), false);
        due.is("3: LOADER 0 finds none", d.make(0, 0, 3, 0), RemoteDesk.NOTFOUND);
        due.is("3: another source has it still", d.make(1, 4, 3, 0), RemoteDesk.OK);
        due.is("3: of a place", d.withdraw(5, 3), true);
        due.is("3: what is KNOWN stays so", d.make(1, 4, 3, 0), RemoteDesk.OK);
        due.is("3: at 7", d.withdraw(7, 3), false);
        due.is("3: at -1", d.withdraw(-1, 3), false);
        due.is("3: name 12", d.withdraw(0, 12), false);
        due.is("3: name -1", d.withdraw(1, -1), false);
    }

    private static void promise4() {
        RemoteDesk d = new RemoteDesk();
        due.is("4: codebase -1", d.prefer(-1, 0), false);
        due.is("4: codebase 4", d.prefer(4, 0), false);
        due.is("4: set -1", d.prefer(0, -1), false);
        due.is("4: set 4096", d.prefer(0, 4096), false);
        due.is("4: set 4095", d.prefer(0, 4095), true);
        d.offer(0, 0, -1, 1, 1, 0);
        d.offer(0, 1, -1, 1, 1, 0);
        d.offer(4, 0, -1, 2, 1, 0);
        d.offer(4, 1, -1, 2, 1, 0);
        d.offer(5, 0, -1, 2, 1, 0);
        d.offer(5, 1, -1, 2, 1, 0);
        due.is("4: name 1 alone", d.prefer(0, 2), true);
        due.is("4: a wrong set leaves that", d.prefer(0, 4097), false);
        due.is("4: make 0", d.make(0, 0, 0, 0), RemoteDesk.OK);
        due.is("4: make 1", d.make(0, 0, 1, 0), RemoteDesk.OK);
        due.is("4: name 0 is the place's", d.known(0, 0, 0, 0), 4);
        due.is("4: name 1 is the codebase's", d.known(0, 0, 1, 0), 0);
        d.prefer(0, 1);
        d.make(1, 0, 0, 0);
        d.make(1, 0, 1, 0);
        due.is("4: at place 1 the new set", d.known(1, 0, 0, 0), 0);
        due.is("4: at place 1 the new set", d.known(1, 0, 1, 0), 4);
        d.offer(4, 2, -1, 0, 1, 0);
        d.offer(0, 2, -1, 0, 1, 0);
        d.prefer(0, 4);
        d.make(0, 0, 2, 0);
        due.is("4: place 0 noted the set before", d.known(0, 0, 2, 0), 4);
        d.prefer(1, 0);
        due.is("4: a LOADING that fails notes, too", d.make(0, 1, 7, 0), RemoteDesk.NOTFOUND);
        d.prefer(1, 4);
        d.offer(1, 2, -1, 0, 1, 0);
        d.make(0, 1, 2, 0);
        due.is("4: what was noted by it", d.known(0, 1, 2, 0), 4);
        d.prefer(2, 4);
        due.is("4: a BAD call notes nothing", d.make(0, 2, 2, 4), RemoteDesk.BAD);
        d.offer(2, 2, -1, 0, 1, 0);
        d.make(0, 2, 2, 0);
        due.is("4: noted at the first real one", d.known(0, 2, 2, 0), 2);
    }

    private static void promise5() {
        RemoteDesk d = new RemoteDesk();
        due.is("5: place -1", d.annotate(-1, 0), false);
        due.is("5: place 3", d.annotate(3, 0), false);
        due.is("5: codebase -2", d.annotate(0, -2), false);
        due.is("5: codebase 4", d.annotate(0, 4), false);
        d.offer(4, 0, -1, 1, 1, 0);
        d.offer(5, 0, -1, 1, 1, 0);
        d.offer(3, 0, -1, 1, 1, 0);
        d.prefer(3, 1);
        d.make(1, 4, 0, 0);
        d.bind(1, 0, 0);
        d.lookup(0, 1, 0, 0);
        d.make(0, 4, 0, 1);
        due.is("5: codebase 3", d.annotate(0, 3), true);
        due.is("5: call", d.call(0, 0, 0, 1, 2), RemoteDesk.OK);
        due.is("5: read by LOADER 3", d.look(1, 0, 0, 1, 4), 3);
        due.is("5: none", d.annotate(0, -1), true);
        due.is("5: call", d.call(0, 0, 0, 1, 2), RemoteDesk.OK);
        due.is("5: read by LOADER 4", d.look(1, 0, 0, 1, 4), 4);
        due.is("5: what came back was of LOADER 3, and is so here", d.look(0, 2, 0, 0, 4), 3);
        d.annotate(0, 2);
        d.offer(5, 1, -1, 0, 1, 0);
        due.is("5: a class of LOADER 3 goes by 3, not by the ANNOTATION", d.call(0, 0, 0, 2, 1), RemoteDesk.OK);
        due.is("5: so it is", d.look(1, 0, 0, 1, 4), 3);
    }

    private static void promise6Numbers() {
        RemoteDesk d = new RemoteDesk();
        d.offer(4, 0, -1, 1, 1, 0);
        int[][] wrong = {{-1, 4, 0, 0}, {3, 4, 0, 0}, {0, -1, 0, 0}, {0, 5, 0, 0}, {0, 4, -1, 0}, {0, 4, 12, 0}, {0, 4, 0, -1}, {0, 4, 0, 4}};
        for (int[] w : wrong) {
            due.is("6: a wrong number", d.make(w[0], w[1], w[2], w[3]), RemoteDesk.BAD);
        }
        due.is("6: nothing was LOADED", d.known(0, 4, 0, 0), RemoteDesk.BAD);
        due.is("6: nothing was made", d.state(0, 0), 0);
        due.is("6: make", d.make(0, 4, 0, 3), RemoteDesk.OK);
        due.is("6: the REF has nothing", d.look(0, 3, 0, 0, 0), 0);
        due.is("6: the NUMBER is 0", d.look(0, 3, 0, 0, 1), 0);
        due.is("6: PLAIN", d.look(0, 3, 0, 0, 2), 1);
        due.is("6: one object", d.state(0, 0), 1);
        due.is("6: an ERROR", d.make(0, 4, 1, 3), RemoteDesk.NOTFOUND);
        due.is("6: leaves the VARIABLE", d.look(0, 3, 0, 0, 3), 0);
    }

    private static void promise6Full() {
        RemoteDesk d = new RemoteDesk();
        d.offer(4, 0, -1, 1, 1, 0);
        d.offer(4, 1, -1, 1, 5, 0);
        d.offer(4, 2, -1, 1, 1, 0);
        for (int i = 0; i < 12; i++) {
            due.is("6: object " + i, d.make(0, 4, 0, 0), RemoteDesk.OK);
        }
        due.is("6: FULL", d.make(0, 4, 2, 0), RemoteDesk.FULL);
        due.is("6: but the class is READY", d.known(0, 4, 2, 1), 1);
        due.is("6: FULL comes last, after READYING", d.make(0, 4, 1, 0), RemoteDesk.INIT);
        due.is("6: and after LOADING", d.make(0, 4, 5, 0), RemoteDesk.NOTFOUND);
        due.is("6: the VARIABLE stays", d.look(0, 0, 0, 0, 3), 0);
        due.is("6: another place has room", d.state(1, 0), 0);
        due.is("6: 12 objects", d.state(0, 0), 12);
    }

    private static void loadingOrder() {
        RemoteDesk d = new RemoteDesk();
        due.is("LOAD: NOTFOUND before PROHIBITED", d.make(0, 0, 8, 0), RemoteDesk.NOTFOUND);
        d.offer(0, 8, 8, 0, 3, 0);
        due.is("LOAD: PROHIBITED before SPOILED", d.make(0, 0, 8, 0), RemoteDesk.PROHIBITED);
        d.offer(0, 7, 7, 0, 3, 0);
        due.is("LOAD: SPOILED before CIRCLE", d.make(0, 0, 7, 0), RemoteDesk.SPOILED);
        d.offer(0, 7, 7, 0, 1, 0);
        due.is("LOAD: the name itself", d.make(0, 0, 7, 0), RemoteDesk.CIRCLE);
        d.offer(0, 7, 6, 0, 1, 0);
        due.is("LOAD: the PARENT's ERROR", d.make(0, 0, 7, 0), RemoteDesk.NOTFOUND);
        d.offer(0, 6, 8, 0, 1, 0);
        due.is("LOAD: of its PARENT", d.make(0, 0, 7, 0), RemoteDesk.PROHIBITED);
        due.is("LOAD: no class came of all this", d.state(0, 1), 0);
        d.offer(0, 5, -1, 0, 1, 1);
        d.make(0, 0, 5, 0);
        d.offer(0, 7, 6, 0, 1, 0);
        d.offer(0, 6, -1, 0, 3, 0);
        due.is("LOAD: the PARENT's ERROR before SIGNERS", d.make(0, 0, 7, 0), RemoteDesk.SPOILED);
        d.offer(4, 8, -1, 0, 3, 0);
        due.is("LOAD: LOADER 4 takes names above 7, and SPOILED ones", d.make(0, 4, 8, 0), RemoteDesk.OK);
        due.is("LOAD: so LOADER 0 has it of LOADER 4", d.make(0, 0, 8, 0), RemoteDesk.OK);
        d.withdraw(4, 8);
        due.is("LOAD: LOADER 0 KNOWS it", d.make(0, 0, 8, 0), RemoteDesk.OK);
        due.is("LOAD: LOADER 1 does not ask LOADER 4 without a DEFINITION", d.make(0, 1, 8, 0), RemoteDesk.NOTFOUND);
    }

    private static void loadingByTwoLoaders() {
        RemoteDesk d = new RemoteDesk();
        d.offer(0, 0, 1, 0, 1, 0);
        d.offer(4, 1, 0, 0, 1, 0);
        d.offer(4, 0, -1, 0, 1, 0);
        d.prefer(0, 1);
        due.is("LOAD: LOADER 4 is not just LOADING what LOADER 0 is", d.make(0, 0, 0, 0), RemoteDesk.OK);
        due.is("LOAD: 0 by LOADER 0", d.known(0, 0, 0, 0), 0);
        due.is("LOAD: 1 by LOADER 4", d.known(0, 0, 1, 0), 4);
        due.is("LOAD: LOADER 4 KNOWS its own 0", d.known(0, 4, 0, 0), 4);
        due.is("LOAD: three classes", d.state(0, 1), 3);
        d = new RemoteDesk();
        d.offer(4, 1, 2, 0, 1, 0);
        d.offer(0, 1, -1, 0, 1, 0);
        due.is("LOAD: an ERROR of LOADER 4 is LOADER 0's", d.make(0, 0, 1, 0), RemoteDesk.NOTFOUND);
        due.is("LOAD: it KNOWS nothing by that", d.known(0, 0, 1, 0), RemoteDesk.BAD);
        d.withdraw(4, 1);
        due.is("LOAD: later it DEFINES it", d.make(0, 0, 1, 0), RemoteDesk.OK);
        due.is("LOAD: itself", d.known(0, 0, 1, 0), 0);
        d.offer(4, 1, -1, 0, 1, 0);
        due.is("LOAD: what it KNOWS is first", d.make(0, 0, 1, 0), RemoteDesk.OK);
        due.is("LOAD: still its own", d.known(0, 0, 1, 0), 0);
        due.is("LOAD: LOADERS of another place are others", d.known(1, 0, 1, 0), RemoteDesk.BAD);
    }

    private static void loadingCircles() {
        RemoteDesk d = new RemoteDesk();
        for (int name = 0; name < 12; name++) {
            d.offer(4, name, (name + 1) % 12, 0, 1, 0);
        }
        for (int name = 0; name < 12; name++) {
            due.is("LOAD: a circle of 12", d.make(0, 4, name, 0), RemoteDesk.CIRCLE);
        }
        d.offer(4, 3, 2, 0, 1, 0);
        due.is("LOAD: a circle of two behind others", d.make(0, 4, 0, 0), RemoteDesk.CIRCLE);
        due.is("LOAD: nothing is KNOWN", d.state(0, 1), 0);
        d.offer(4, 3, -1, 0, 1, 0);
        due.is("LOAD: no circle any more", d.make(0, 4, 0, 0), RemoteDesk.OK);
        due.is("LOAD: four classes", d.state(0, 1), 4);
    }

    private static void loadingSigners() {
        RemoteDesk d = new RemoteDesk();
        d.offer(1, 3, -1, 0, 1, 2);
        d.offer(1, 4, -1, 0, 1, 3);
        d.offer(1, 0, -1, 0, 1, 3);
        d.offer(1, 1, -1, 0, 1, 2);
        d.offer(1, 7, -1, 0, 1, 0);
        due.is("SIGNERS: the first of a PACKAGE", d.make(0, 1, 3, 0), RemoteDesk.OK);
        due.is("SIGNERS: another PACKAGE", d.make(0, 1, 4, 0), RemoteDesk.OK);
        due.is("SIGNERS: another SIGNER", d.make(0, 1, 0, 0), RemoteDesk.SIGNERS);
        due.is("SIGNERS: not KNOWN", d.known(0, 1, 0, 0), RemoteDesk.BAD);
        due.is("SIGNERS: the same SIGNER", d.make(0, 1, 1, 0), RemoteDesk.OK);
        due.is("SIGNERS: last of the PACKAGE", d.make(0, 1, 7, 0), RemoteDesk.SIGNERS);
        due.is("SIGNERS: at another place", d.make(1, 1, 0, 0), RemoteDesk.OK);
        d.offer(2, 0, -1, 0, 1, 1);
        due.is("SIGNERS: another LOADER", d.make(0, 2, 0, 0), RemoteDesk.OK);
        d.offer(4, 8, -1, 0, 1, 0);
        d.offer(4, 9, -1, 0, 1, 1);
        due.is("SIGNERS: LOADER 4", d.make(0, 4, 8, 0), RemoteDesk.OK);
        due.is("SIGNERS: LOADER 4 takes any", d.make(0, 4, 9, 0), RemoteDesk.OK);
        d.offer(4, 2, -1, 0, 1, 0);
        due.is("SIGNERS: what LOADER 4 DEFINED does not count", d.make(0, 1, 2, 0), RemoteDesk.OK);
        d.offer(1, 5, 6, 0, 1, 3);
        d.offer(1, 6, -1, 0, 1, 1);
        due.is("SIGNERS: of the PARENT", d.make(0, 1, 5, 0), RemoteDesk.SIGNERS);
        due.is("SIGNERS: the child is not KNOWN", d.known(0, 1, 5, 0), RemoteDesk.BAD);
    }

    private static void longestChain() {
        RemoteDesk d = new RemoteDesk();
        for (int name = 0; name < 7; name++) {
            d.offer(0, name, name + 1, 0, 1, 0);
        }
        d.offer(0, 7, 11, 0, 1, 0);
        for (int name = 11; name > 0; name--) {
            d.offer(4, name, name - 1, 0, 1, 0);
        }
        d.offer(4, 0, -1, 0, 1, 0);
        d.prefer(0, 255);
        due.is("LOAD: through all names of two LOADERS", d.make(0, 0, 0, 0), RemoteDesk.OK);
        due.is("LOAD: 20 classes", d.state(0, 1), 20);
        due.is("READY: the farthest", d.known(0, 4, 0, 1), 1);
    }

    private static void readying() {
        RemoteDesk d = new RemoteDesk();
        d.offer(4, 0, -1, 0, 1, 0);
        d.offer(4, 1, 0, 0, 5, 0);
        d.offer(4, 2, 1, 0, 5, 0);
        d.offer(4, 3, 1, 0, 1, 0);
        d.offer(4, 4, 0, 0, 1, 0);
        due.is("READY: INIT of the PARENT", d.make(0, 4, 2, 0), RemoteDesk.INIT);
        due.is("READY: the PARENT's PARENT is READY", d.known(0, 4, 0, 1), 1);
        due.is("READY: the PARENT is BROKEN", d.known(0, 4, 1, 1), 2);
        due.is("READY: it is BROKEN", d.known(0, 4, 2, 1), 2);
        due.is("READY: GONE of the PARENT", d.make(0, 4, 3, 0), RemoteDesk.GONE);
        due.is("READY: it is BROKEN by that", d.known(0, 4, 3, 1), 2);
        due.is("READY: GONE", d.make(0, 4, 3, 0), RemoteDesk.GONE);
        due.is("READY: a good one", d.make(0, 4, 4, 0), RemoteDesk.OK);
        due.is("READY: again", d.make(0, 4, 4, 0), RemoteDesk.OK);
        due.is("READY: objects of the good one alone", d.state(0, 0), 2);
    }

    private static void promise20() {
        RemoteDesk d = new RemoteDesk();
        d.offer(2, 1, 0, 2, 5, 3);
        d.offer(2, 0, -1, 1, 1, 3);
        d.make(1, 2, 1, 0);
        int[] ofOne = {2, 2, 2, 5, 3, 0};
        int[] ofNone = {2, 1, 1, 1, 3, RemoteDesk.BAD};
        for (int what = 0; what < 6; what++) {
            due.is("20: known of 1, what " + what, d.known(1, 2, 1, what), ofOne[what]);
            due.is("20: known of 0, what " + what, d.known(1, 2, 0, what), ofNone[what]);
        }
        due.is("20: what -1", d.known(1, 2, 1, -1), RemoteDesk.BAD);
        due.is("20: what 6", d.known(1, 2, 1, 6), RemoteDesk.BAD);
        due.is("20: place -1", d.known(-1, 2, 1, 0), RemoteDesk.BAD);
        due.is("20: place 3", d.known(3, 2, 1, 0), RemoteDesk.BAD);
        due.is("20: loader -1", d.known(1, -1, 1, 0), RemoteDesk.BAD);
        due.is("20: loader 5", d.known(1, 5, 1, 0), RemoteDesk.BAD);
        due.is("20: name -1", d.known(1, 2, -1, 0), RemoteDesk.BAD);
        due.is("20: name 12", d.known(1, 2, 12, 0), RemoteDesk.BAD);
        d.offer(3, 0, -1, 1, 1, 0);
        d.make(1, 3, 0, 0);
        due.is("20: name 12 is not name 0 of the next LOADER", d.known(1, 2, 12, 0), RemoteDesk.BAD);
        due.is("20: name -12 is not name 0 of the LOADER before", d.known(1, 4, -12, 0), RemoteDesk.BAD);
        due.is("20: another place", d.known(0, 2, 1, 0), RemoteDesk.BAD);
        due.is("20: another LOADER", d.known(1, 1, 1, 0), RemoteDesk.BAD);
        d.offer(5, 7, -1, 0, 1, 0);
        d.make(1, 4, 7, 0);
        d.bind(1, 0, 0);
        d.offer(5, 2, -1, 0, 1, 0);
        d.offer(6, 2, -1, 1, 1, 0);
        d.make(2, 4, 2, 0);
        d.lookup(2, 1, 0, 1);
        due.is("20: WRONG leaves a class FRESH", d.call(2, 1, 3, 0, 2), RemoteDesk.WRONG);
        due.is("20: FRESH", d.known(1, 4, 2, 1), 0);
    }
}
