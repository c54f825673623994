import java.util.Arrays;
import java.util.function.Consumer;

/**
 * Each number of each call: all that are as said are taken, none beside them is. And "a call that answers BAD or false
 * changes nothing": what can be told of a desk after it is what can be told of one without it.
 */
public final class NumbersTest {
    private static final Due due = new Due();
    private static final int ANY = Integer.MIN_VALUE;
    private static final int KEPT = Integer.MAX_VALUE;
    private static final Consumer<RemoteDesk> MIXED = Pasts::mixed;
    private static final Consumer<RemoteDesk> CROWDED = Pasts::crowded;
    private static final Consumer<RemoteDesk> STUBS = Pasts::stubs;

    /**
     * A call that is taken in a past, and of each of its numbers the least and the greatest that are as said there:
     * ANY if all are, KEPT if it is to stay as it is in this row.
     */
    private record Row(String name, Consumer<RemoteDesk> past, int[] base, int... ends) {
        int least(int i) { return ends[2 * i]; }
        int greatest(int i) { return ends[2 * i + 1]; }
        boolean isFree(int i) { return least(i) == ANY; }
        boolean isRanged(int i) { return least(i) != ANY && least(i) != KEPT; }
    }

    private static final Row[] ROWS = {
        new Row("offer", CROWDED, new int[] {2, 3, 4, 1, 1, 1}, 0, 6, 0, 11, -1, 11, 0, 3, 0, 7, 0, 3),
        new Row("withdraw", CROWDED, new int[] {2, 3}, 0, 6, 0, 11),
        new Row("prefer", MIXED, new int[] {1, 77}, 0, 3, 0, 4095),
        new Row("annotate", MIXED, new int[] {1, 2}, 0, 2, -1, 3),
        new Row("make", STUBS, new int[] {1, 4, 0, 2}, 0, 2, 0, 4, 0, 11, 0, 3),
        new Row("make", MIXED, new int[] {1, 2, 5, 2}, 0, 2, 0, 4, 0, 11, 0, 3),
        new Row("put", CROWDED, new int[] {1, 2, 1, 0}, 0, 2, 0, 3, 0, 1, ANY, ANY),
        new Row("let", CROWDED, new int[] {1, 2, 0}, 0, 2, 0, 3, -1, 3),
        new Row("let", STUBS, new int[] {1, 2, 0}, 0, 2, 0, 3, -1, 3),
        new Row("walk", CROWDED, new int[] {1, 2, 1}, 0, 2, 0, 3, 0, 1),
        new Row("bind", CROWDED, new int[] {1, 2, 3}, 0, 2, -1, 3, 0, 3),
        new Row("unbind", CROWDED, new int[] {1, 2}, 0, 2, 0, 3),
        new Row("retire", CROWDED, new int[] {1, 2}, 0, 2, 0, 3),
        new Row("lookup", STUBS, new int[] {1, 0, 2, 2}, 0, 2, 0, 2, 0, 3, 0, 3),
        new Row("lookup", CROWDED, new int[] {1, 0, 2, 2}, 0, 2, 0, 2, 0, 3, 0, 3),
        new Row("call", STUBS, new int[] {1, 1, 3, 2, 2}, 0, 2, 0, 3, 0, 5, 0, 3, 0, 3),
        new Row("collect", MIXED, new int[] {1}, 0, 2),
        new Row("collect", CROWDED, new int[] {1}, 0, 2),
        new Row("tick", MIXED, new int[] {3}, 0, 400),
        new Row("tick", STUBS, new int[] {3}, 0, 400),
        new Row("look", CROWDED, new int[] {1, 2, 5, 3, 2}, 0, 2, 0, 3, ANY, ANY, 0, 8, 0, 5),
        new Row("look", STUBS, new int[] {1, 2, 0, 0, 6}, 0, 2, 0, 3, ANY, ANY, 0, 0, KEPT, KEPT),
        new Row("digest", CROWDED, new int[] {1, 2}, 0, 2, 0, 3),
        new Row("known", CROWDED, new int[] {1, 2, 11, 0}, 0, 2, 0, 4, KEPT, KEPT, 0, 5),
        new Row("known", CROWDED, new int[] {1, 4, 4, 0}, 0, 2, 4, 4, 0, 11, 0, 5),
        new Row("lease", STUBS, new int[] {1, 1, 2}, 0, 2, 1, 1, 0, 2),
        new Row("state", CROWDED, new int[] {1, 2}, 0, 2, 0, 3),
        new Row("fault", MIXED, new int[] {0}, 0, 1)};

    public static void main(String[] args) {
        for (Row row : ROWS) {
            takesAsSaid(row);
            refusesOthers(row);
        }
        links();
        lookWhat();
        refusedForWhatIsThere();
        queriesChangeNothing();
        errorsThatChangeNothing();
        probeSeesDefinitions();
        probeSeesTheRest();
        due.close();
    }

    private static long answer(Consumer<RemoteDesk> past, String name, int... a) {
        RemoteDesk d = new RemoteDesk();
        past.accept(d);
        return Calls.ask(d, name, a);
    }

    private static int[] with(int[] base, int i, int number) {
        int[] a = base.clone();
        a[i] = number;
        return a;
    }

    private static void takes(Row row, int[] a) {
        boolean isRefused = answer(row.past, row.name, a) == Calls.refusal(row.name);
        due.is(Calls.text(row.name, a) + " is refused", isRefused, false);
    }

    private static void takesAsSaid(Row row) {
        int[] least = row.base.clone();
        int[] greatest = row.base.clone();
        takes(row, row.base);
        for (int i = 0; i < row.base.length; i++) {
            if (row.isFree(i)) {
                for (int number : new int[] {ANY, ANY + 1, -1, 0, 1, Integer.MAX_VALUE}) {
                    takes(row, with(row.base, i, number));
                }
            }
            if (!row.isRanged(i)) {
                continue;
            }
            for (int number = row.least(i); number <= row.greatest(i); number++) {
                if (number < row.least(i) + 13 || number > row.greatest(i) - 13) {
                    takes(row, with(row.base, i, number));
                }
            }
            least[i] = row.least(i);
            greatest[i] = row.greatest(i);
        }
        takes(row, least);
        takes(row, greatest);
    }

    /** One beyond each end, the ends of int, and numbers that would be other ones if rows of 3, 4, 5 or 12 were not minded. */
    private static int[] beside(int least, int greatest) {
        int[] steps = {1, 3, 4, 5, 12, 36, 60, 1 << 8, 1 << 16, 1 << 28, 1 << 29, 1 << 30};
        int[] numbers = new int[2 * steps.length + 4];
        for (int i = 0; i < steps.length; i++) {
            numbers[2 * i] = least - steps[i];
            numbers[2 * i + 1] = greatest + steps[i];
        }
        numbers[2 * steps.length] = Integer.MIN_VALUE;
        numbers[2 * steps.length + 1] = Integer.MAX_VALUE;
        numbers[2 * steps.length + 2] = Integer.MIN_VALUE + 1;
        numbers[2 * steps.length + 3] = Integer.MIN_VALUE + 4;
        return numbers;
    }

    private static void refusesOthers(Row row) {
        long[] before = Probe.tell(row.past);
        for (int i = 0; i < row.base.length; i++) {
            if (!row.isRanged(i)) {
                continue;
            }
            for (int number : beside(row.least(i), row.greatest(i))) {
                refuses(row.past, before, row.name, with(row.base, i, number));
            }
        }
        int[] low = new int[row.base.length];
        int[] high = new int[row.base.length];
        for (int i = 0; i < low.length; i++) {
            low[i] = row.isRanged(i) ? row.least(i) - 1 : row.base[i];
            high[i] = row.isRanged(i) ? row.greatest(i) + 1 : row.base[i];
        }
        refuses(row.past, before, row.name, low);
        refuses(row.past, before, row.name, high);
    }

    private static void refuses(Consumer<RemoteDesk> past, long[] before, String name, int... a) {
        due.is("24: " + Calls.text(name, a), answer(past, name, a), Calls.refusal(name));
        changesNothing(past, before, name, a);
    }

    private static void changesNothing(Consumer<RemoteDesk> past, long[] before, String name, int... a) {
        long[] after = Probe.tell(Pasts.then(past, name, a));
        due.is("24: nothing changes by " + Calls.text(name, a), Arrays.equals(before, after), true);
    }

    private static void links() {
        long[] before = Probe.tell(STUBS);
        for (int p = 0; p < 3; p++) {
            for (int q = 0; q < 3; q++) {
                due.is("14: " + Calls.text("link", p, q, 0), answer(STUBS, "link", p, q, 0), p == q ? 0 : 1);
                due.is("14: on again", answer(Pasts.then(STUBS, "link", q, p, 0), "link", p, q, 1), p == q ? 0 : 1);
                refuses(STUBS, before, "link", p, q, 1);
            }
            refuses(STUBS, before, "link", p, p, 0);
            for (int number : beside(0, 2)) {
                for (int on = 0; on < 2; on++) {
                    refuses(STUBS, before, "link", p, number, on);
                    refuses(STUBS, before, "link", number, p, on);
                    refuses(STUBS, before, "link", number, number, on);
                }
            }
        }
        refuses(MIXED, Probe.tell(MIXED), "link", 1, 2, 0);
        refuses(MIXED, Probe.tell(MIXED), "link", 2, 1, 0);
    }

    private static void lookWhat() {
        due.is("18: a STUB", answer(STUBS, "look", 1, 2, 0, 0, 2), 2);
        due.is("18: its TICKET", answer(STUBS, "look", 1, 2, 0, 0, 5), 1);
        due.is("18: its place", answer(STUBS, "look", 1, 2, 0, 0, 6), 0);
        for (int number : beside(0, 6)) {
            due.is("18: PLAIN, what " + number, answer(CROWDED, "look", 1, 2, 0, 0, number), RemoteDesk.NONE);
            due.is("18: a STUB, what " + number, answer(STUBS, "look", 1, 2, 0, 0, number), RemoteDesk.NONE);
        }
    }

    private static void refusedForWhatIsThere() {
        long[] before = Probe.tell(MIXED);
        Object[][] calls = {
            {"withdraw", 0, 7}, {"withdraw", 3, 2}, {"withdraw", 6, 11}, {"withdraw", 4, 5},
            {"put", 0, 2, 0, 1}, {"put", 0, 2, 1, 1}, {"put", 0, 3, 0, 1}, {"put", 2, 3, 1, 1},
            {"walk", 0, 0, 1}, {"walk", 0, 1, 0}, {"walk", 0, 2, 0}, {"walk", 0, 2, 1}, {"walk", 0, 3, 0}, {"walk", 0, 3, 1},
            {"bind", 0, 0, 2}, {"bind", 0, -1, 2}, {"bind", 0, 3, 3}, {"bind", 0, -1, 3},
            {"unbind", 0, 1}, {"unbind", 0, 3}, {"unbind", 1, 0}, {"unbind", 2, 3},
            {"retire", 0, 1}, {"retire", 0, 2}, {"retire", 0, 3},
            {"call", 0, 0, 3, 0, 0}, {"call", 0, 1, 3, 0, 0}, {"call", 0, 3, 3, 0, 0},
            {"call", 0, 2, 6, 1, 1}, {"call", 0, 2, -1, 1, 1}, {"call", 0, 2, 3, 4, 1}, {"call", 0, 2, 3, 0, 4},
            {"look", 0, 3, 0, 0, 2}, {"look", 0, 2, 0, 1, 2}, {"look", 0, 2, 0, 0, 3}, {"look", 0, 1, 0, 0, 5}, {"look", 0, 1, 0, 0, 6},
            {"known", 0, 0, 0, 0}, {"known", 2, 4, 9, 1}, {"known", 0, 4, 0, 5},
            {"lease", 0, 1, 1}, {"lease", 0, 2, 2}, {"lease", 1, 2, 0}, {"lease", 2, 0, 1}};
        for (Object[] call : calls) {
            int[] a = new int[call.length - 1];
            for (int i = 0; i < a.length; i++) {
                a[i] = (Integer) call[i + 1];
            }
            refuses(MIXED, before, (String) call[0], a);
        }
    }

    private static void queriesChangeNothing() {
        for (Row row : ROWS) {
            if (row.name.matches("look|digest|known|lease|state|fault")) {
                changesNothing(row.past, Probe.tell(row.past), row.name, row.base);
            }
        }
        changesNothing(MIXED, Probe.tell(MIXED), "tick", 0);
    }

    private static void errorsThatChangeNothing() {
        long[] before = Probe.tell(MIXED);
        due.is("13: UNLINKED", answer(MIXED, "lookup", 1, 2, 2, 3), RemoteDesk.UNLINKED);
        changesNothing(MIXED, before, "lookup", 1, 2, 2, 3);
        due.is("13: NOSUCH", answer(MIXED, "lookup", 1, 0, 1, 3), RemoteDesk.NOSUCH);
        changesNothing(MIXED, before, "lookup", 1, 0, 1, 3);
        due.is("13: FULL", answer(CROWDED, "lookup", 1, 0, 1, 3), RemoteDesk.FULL);
        changesNothing(CROWDED, Probe.tell(CROWDED), "lookup", 1, 0, 1, 3);
        due.is("15: UNSENDABLE once more", answer(MIXED, "call", 0, 2, 0, 1, 1), RemoteDesk.UNSENDABLE);
        changesNothing(MIXED, before, "call", 0, 2, 0, 1, 1);
    }

    private static void sees(Consumer<RemoteDesk> past, long[] before, String name, int... a) {
        due.is(Calls.text(name, a) + " is refused", answer(past, name, a) == Calls.refusal(name), false);
        boolean isSame = Arrays.equals(before, Probe.tell(Pasts.then(past, name, a)));
        due.is("the probe does not see " + Calls.text(name, a), isSame, false);
    }

    /** A probe that saw less than there is would let a refused call change the rest. */
    private static void probeSeesDefinitions() {
        long[] before = Probe.tell(MIXED);
        for (int at = 0; at < 7; at++) {
            for (int name = 0; name < 12; name++) {
                boolean isThere = answer(MIXED, "withdraw", at, name) == 1;
                if (isThere) {
                    sees(MIXED, before, "withdraw", at, name);
                } else {
                    sees(MIXED, before, "offer", at, name, -1, 0, 0, 0);
                }
                if (at < 4 ? name < 8 : name > 1) {
                    seesParts(at, name);
                }
            }
        }
    }

    private static void seesParts(int at, int name) {
        Consumer<RemoteDesk> past = Pasts.then(MIXED, "offer", at, name, (name + 1) % 8, 2, 1, 1);
        long[] before = Probe.tell(past);
        sees(past, before, "offer", at, name, -1, 2, 1, 1);
        sees(past, before, "offer", at, name, (name + 2) % 8, 2, 1, 1);
        sees(past, before, "offer", at, name, (name + 1) % 8, 3, 1, 1);
        sees(past, before, "offer", at, name, (name + 1) % 8, 0, 1, 1);
        sees(past, before, "offer", at, name, (name + 1) % 8, 2, 0, 1);
        sees(past, before, "offer", at, name, (name + 1) % 8, 2, 3, 1);
        sees(past, before, "offer", at, name, (name + 1) % 8, 2, 5, 1);
        sees(past, before, "offer", at, name, (name + 1) % 8, 2, 1, 2);
        sees(past, before, "offer", at, name, (name + 1) % 8, 2, 1, 0);
    }

    private static void probeSeesTheRest() {
        long[] before = Probe.tell(MIXED);
        for (int c = 0; c < 4; c++) {
            for (int bit = 0; bit < 12; bit++) {
                sees(MIXED, before, "prefer", c, ((0x421 << c) & 4095) ^ (1 << bit));
            }
        }
        int[] annotations = {3, 0, -1};
        for (int p = 0; p < 3; p++) {
            for (int c = -1; c < 4; c++) {
                if (c != annotations[p]) {
                    sees(MIXED, before, "annotate", p, c);
                }
            }
            for (int v = 0; v < 4; v++) {
                sees(MIXED, before, "let", p, v, v == 1 ? 0 : 1);
                sees(MIXED, before, "make", p, 4, 0, v);
                sees(MIXED, before, "lookup", p, p, p, v);
                sees(MIXED, before, "bind", p, v, v == p ? 1 : 0);
            }
            for (int k = 0; k < 2; k++) {
                sees(MIXED, before, "put", p, 0, k, 0);
                sees(MIXED, before, "put", p, 1, k, 1);
            }
            sees(MIXED, before, "walk", p, 0, 0);
            sees(MIXED, before, "unbind", p, p);
            sees(MIXED, before, "retire", p, 0);
            sees(MIXED, before, "link", p, (p + 1) % 3, p == 1 ? 1 : 0);
            sees(MIXED, before, "call", p, 2, 3, 2, 3);
            // A LOADER 0..3 that finds nothing notes what is PREFERRED, and that is all it does.
            for (int c = 0; c < 4; c++) {
                if (p != 1 || c != 2) {
                    sees(MIXED, before, "make", p, c, 7, 0);
                }
            }
        }
        sees(MIXED, before, "bind", 0, -1, 1);
        sees(MIXED, before, "collect", 1);
        sees(MIXED, before, "tick", 1);
    }
}
