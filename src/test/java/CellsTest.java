/** Promises 7, 8, 9, 18 and 19: CELLS and VARIABLES, and what is seen of them. */
public final class CellsTest {
    private static final Due due = new Due();
    private static final long NONE = RemoteDesk.NONE;

    public static void main(String[] args) {
        promise7();
        promise8();
        promise9();
        promise18();
        promise18Paths();
        promise19();
        promise19Order();
        due.close();
    }

    /** Place 0 has names 0..3 with SHAPES 0..3; VARIABLE k holds an object of name k. */
    private static RemoteDesk fourShapes() {
        RemoteDesk d = new RemoteDesk();
        for (int name = 0; name < 4; name++) {
            d.offer(4, name, -1, name, 1, 0);
            d.make(0, 4, name, name);
        }
        return d;
    }

    private static void promise7() {
        RemoteDesk d = fourShapes();
        due.is("7: a NUMBER", d.put(0, 0, 0, Integer.MIN_VALUE), true);
        due.is("7: so", d.look(0, 0, 0, 0, 0), Integer.MIN_VALUE);
        due.is("7: CELL 1", d.put(0, 0, 1, Integer.MAX_VALUE), true);
        due.is("7: so", d.look(0, 0, 0, 0, 1), Integer.MAX_VALUE);
        due.is("7: a REF", d.put(0, 1, 0, 3), true);
        due.is("7: leads to 3", d.look(0, 1, 0, 1, 3), 3);
        due.is("7: its NUMBER", d.put(0, 1, 1, 3), true);
        due.is("7: is a number", d.look(0, 1, 0, 0, 1), 3);
        due.is("7: REF of CELL 1", d.put(0, 2, 1, 2), true);
        due.is("7: leads to itself", d.look(0, 2, 1, 1, 3), 2);
        due.is("7: a NUMBER is no VARIABLE", d.look(0, 2, 0, 0, 0), 0);
        due.is("7: REF with 4", d.put(0, 1, 0, 4), true);
        due.is("7: has nothing", d.look(0, 1, 0, 0, 0), 0);
        d.put(0, 1, 0, 0);
        due.is("7: REF with -1", d.put(0, 1, 0, -1), true);
        due.is("7: has nothing", d.look(0, 1, 0, 0, 0), 0);
        d.put(0, 1, 0, 0);
        d.let(0, 0, -1);
        due.is("7: an empty VARIABLE", d.put(0, 1, 0, 0), true);
        due.is("7: has nothing", d.look(0, 1, 0, 0, 0), 0);
        due.is("7: of nothing", d.put(0, 0, 0, 5), false);
        due.is("7: CELL -1", d.put(0, 1, -1, 5), false);
        due.is("7: CELL 2", d.put(0, 1, 2, 5), false);
        due.is("7: VARIABLE -1", d.put(0, -1, 0, 5), false);
        due.is("7: VARIABLE 4", d.put(0, 4, 0, 5), false);
        due.is("7: place -1", d.put(-1, 1, 0, 5), false);
        due.is("7: place 3", d.put(3, 1, 0, 5), false);
        d.bind(0, 0, 3);
        d.lookup(0, 0, 0, 0);
        due.is("7: of a STUB", d.put(0, 0, 0, 5), false);
        due.is("7: to a STUB", d.put(0, 1, 0, 0), true);
        due.is("7: so it leads", d.look(0, 1, 0, 1, 2), 2);
    }

    private static void promise8() {
        RemoteDesk d = fourShapes();
        due.is("8: let", d.let(0, 0, 3), true);
        due.is("8: so", d.look(0, 0, 0, 0, 3), 3);
        d.put(0, 0, 0, 1);
        due.is("8: the same object", d.look(0, 3, 0, 1, 3), 1);
        due.is("8: itself", d.let(0, 1, 1), true);
        due.is("8: stays", d.look(0, 1, 0, 0, 3), 1);
        due.is("8: nothing", d.let(0, 0, -1), true);
        due.is("8: so", d.digest(0, 0), 1);
        due.is("8: of an empty one", d.let(0, 1, 0), true);
        due.is("8: so", d.digest(0, 1), 1);
        due.is("8: w -2", d.let(0, 2, -2), false);
        due.is("8: w 4", d.let(0, 2, 4), false);
        due.is("8: v -1", d.let(0, -1, 3), false);
        due.is("8: v 4", d.let(0, 4, 3), false);
        due.is("8: place -1", d.let(-1, 2, 3), false);
        due.is("8: place 3", d.let(3, 2, 3), false);
        due.is("8: nothing changed", d.look(0, 2, 0, 0, 3), 2);
        due.is("8: objects stay without VARIABLES", d.state(0, 0), 4);
    }

    private static void promise9() {
        RemoteDesk d = fourShapes();
        d.put(0, 3, 0, 1);
        d.put(0, 3, 1, 2);
        d.let(0, 0, 3);
        due.is("9: REF 1", d.walk(0, 3, 1), true);
        due.is("9: so", d.look(0, 3, 0, 0, 3), 2);
        due.is("9: REF 0", d.walk(0, 0, 0), true);
        due.is("9: so", d.look(0, 0, 0, 0, 3), 1);
        due.is("9: a NUMBER", d.walk(0, 0, 1), false);
        due.is("9: stays", d.look(0, 0, 0, 0, 3), 1);
        due.is("9: k -1", d.walk(0, 0, -1), false);
        due.is("9: k 2", d.walk(0, 0, 2), false);
        due.is("9: v -1", d.walk(0, -1, 0), false);
        due.is("9: v 4", d.walk(0, 4, 0), false);
        due.is("9: place -1", d.walk(-1, 0, 0), false);
        due.is("9: place 3", d.walk(3, 0, 0), false);
        due.is("9: to nothing", d.walk(0, 0, 0), true);
        due.is("9: so", d.digest(0, 0), 1);
        due.is("9: from nothing", d.walk(0, 0, 0), false);
        d.bind(0, 0, 1);
        d.lookup(0, 0, 0, 0);
        due.is("9: from a STUB", d.walk(0, 0, 0), false);
    }

    private static void promise18() {
        RemoteDesk d = new RemoteDesk();
        d.offer(0, 5, -1, 2, 1, 0);
        d.make(1, 0, 5, 2);
        d.put(1, 2, 0, -9);
        long[] plain = {-9, 0, 1, 5, 0, NONE, NONE, NONE};
        for (int what = 0; what < 8; what++) {
            due.is("18: PLAIN, what " + what, d.look(1, 2, 0, 0, what), plain[what]);
        }
        d.bind(1, -1, 2);
        d.make(1, 0, 5, 3);
        due.is("18: the TICKET", d.look(1, 2, 0, 0, 5), 1);
        due.is("18: the second TICKET", d.bind(1, 1, 3), 2);
        d.lookup(0, 1, 1, 0);
        long[] stub = {NONE, NONE, 2, NONE, NONE, 2, 1, NONE};
        for (int what = 0; what < 8; what++) {
            due.is("18: STUB, what " + what, d.look(0, 0, 0, 0, what), stub[what]);
            due.is("18: nothing, what " + what, d.look(0, 1, 0, 0, what), NONE);
        }
        due.is("18: what -1", d.look(1, 2, 0, 0, -1), NONE);
        due.is("18: what at the ends", d.look(1, 2, 0, 0, Integer.MIN_VALUE), NONE);
        due.is("18: n -1", d.look(1, 2, 0, -1, 2), NONE);
        due.is("18: n 9", d.look(1, 2, 0, 9, 2), NONE);
        due.is("18: place -1", d.look(-1, 2, 0, 0, 2), NONE);
        due.is("18: place 3", d.look(3, 2, 0, 0, 2), NONE);
        due.is("18: v -1", d.look(1, -1, 0, 0, 2), NONE);
        due.is("18: v 4", d.look(1, 4, 0, 0, 2), NONE);
        d.retire(1, 2);
        due.is("18: no TICKET any more", d.look(1, 2, 0, 0, 5), NONE);
        due.is("18: a STUB keeps its own", d.look(0, 0, 0, 0, 5), 2);
    }

    private static void promise18Paths() {
        RemoteDesk d = new RemoteDesk();
        d.offer(4, 0, -1, 3, 1, 0);
        d.offer(4, 1, -1, 2, 1, 0);
        d.make(0, 4, 0, 0);
        d.make(0, 4, 1, 1);
        d.put(0, 0, 0, 1);
        d.put(0, 0, 1, 0);
        d.put(0, 1, 0, 77);
        due.is("18: lowest bit first", d.look(0, 0, 1, 2, 3), 1);
        due.is("18: the other way round", d.look(0, 0, 2, 2, 3), NONE);
        due.is("18: eight steps", d.look(0, 0, 127, 8, 0), 77);
        due.is("18: higher bits do not count", d.look(0, 0, 127 | 256, 8, 0), 77);
        due.is("18: a path below 0", d.look(0, 0, -1, 8, 3), 0);
        due.is("18: along a NUMBER", d.look(0, 1, 0, 1, 2), NONE);
        due.is("18: a REF that has one", d.look(0, 0, 0, 0, 0), 1);
        due.is("18: a REF that has none", d.look(0, 1, 0, 0, 1), 0);
        d.bind(0, 0, 1);
        d.lookup(0, 0, 0, 2);
        due.is("18: along a STUB", d.look(0, 2, 1, 1, 2), NONE);
    }

    private static long sum(int... ints) {
        long h = 1;
        for (int i : ints) {
            h = h * 31 + i;
        }
        return h;
    }

    private static void promise19() {
        RemoteDesk d = fourShapes();
        due.is("19: from nothing", d.digest(1, 0), 1);
        due.is("19: place -1", d.digest(-1, 0), NONE);
        due.is("19: place 3", d.digest(3, 0), NONE);
        due.is("19: v -1", d.digest(0, -1), NONE);
        due.is("19: v 4", d.digest(0, 4), NONE);
        d.put(0, 0, 0, -5);
        d.put(0, 0, 1, Integer.MAX_VALUE);
        due.is("19: NUMBERS", d.digest(0, 0), sum(0, -5, Integer.MAX_VALUE));
        due.is("19: nothing in REFS", d.digest(0, 3), sum(3, -1, -1));
        d.bind(0, 0, 0);
        due.is("19: EXPORTED as it is", d.digest(0, 0), sum(0, -5, Integer.MAX_VALUE));
        d.bind(0, 1, 3);
        d.lookup(2, 0, 1, 1);
        due.is("19: a STUB", d.digest(2, 1), sum(100, 2));
        d.offer(5, 0, -1, 0, 0, 0);
        d.make(1, 4, 0, 0);
        d.bind(1, 0, 0);
        d.lookup(0, 1, 0, 2);
        d.put(0, 3, 0, 2);
        d.put(0, 3, 1, 0);
        due.is("19: through EXPORTED ones", d.digest(0, 3), sum(3, 1, 2, 101, 1, 0, -5, Integer.MAX_VALUE));
    }

    private static void promise19Order() {
        RemoteDesk d = new RemoteDesk();
        d.offer(4, 0, -1, 3, 0, 0);
        d.offer(4, 1, -1, 3, 0, 0);
        d.offer(4, 2, -1, 3, 0, 0);
        d.offer(4, 3, -1, 1, 0, 0);
        for (int v = 0; v < 4; v++) {
            d.make(0, 4, v, v);
        }
        d.put(0, 0, 0, 1);
        d.put(0, 0, 1, 2);
        d.put(0, 1, 0, 3);
        d.put(0, 1, 1, 2);
        d.put(0, 2, 0, 0);
        d.put(0, 3, 0, 2);
        d.put(0, 3, 1, 9);
        due.is("19: all from CELL 0 on comes before CELL 1", d.digest(0, 0), sum(0, 1, 3, 1, 2, 3, 3, 3, 9, 2, 0, -1));
        due.is("19: from another one", d.digest(0, 2), sum(2, 1, -1, 0, 2, 0, 1, 3, 0, 3, 0, 9));
        long before = d.digest(0, 0);
        for (int i = 0; i < 8; i++) {
            d.make(0, 4, 0, 3);
            d.put(0, 3, 0, 2);
            d.put(0, 3, 1, 3);
            d.let(0, 2, 3);
        }
        int[] ints = new int[36];
        for (int i = 0; i < 8; i++) {
            ints[3 * i] = 0;
            ints[3 * i + 1] = i + 1;
            ints[3 * i + 2] = i;
        }
        int[] rest = {2, 9, -1, 0, 10, 8, 1, 11, 8, 3, 8, 9};
        System.arraycopy(rest, 0, ints, 24, 12);
        due.is("19: twelve objects, and longs wrap", d.digest(0, 3), sum(ints));
        due.is("19: others do not change it", d.digest(0, 0), before);
    }
}
