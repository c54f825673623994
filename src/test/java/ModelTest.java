import java.util.Random;

/** Long runs of mixed calls on RemoteDesk and on Model: every answer is compared, and all that can be seen after each run. */
public final class ModelTest {
    private static final int RUNS = 6000;
    // With what is seen between and after them a desk gets more than the 512 calls it is promised for: this program does not count them.
    private static final int CALLS = 512;

    private final Random random;
    private final RemoteDesk desk = new RemoteDesk();
    private final Model model = new Model();
    private final int[] answers = new int[16];
    private final int names;
    private final int oddity;
    private String latest = "";
    private int wrong = 0;

    private ModelTest(long seed) {
        random = new Random(seed);
        names = 2 + random.nextInt(11);
        oddity = random.nextInt(3) == 0 ? 10 : 60;
    }

    public static void main(String[] args) {
        int wrong = 0;
        int[] codes = new int[16];
        int[] parts = new int[8];
        for (int seed = 0; seed < RUNS && wrong == 0; seed++) {
            ModelTest run = new ModelTest(seed);
            for (int i = 0; i < CALLS && run.wrong == 0; i++) {
                run.step(i < 40);
                int part = run.model.fault(0);
                if (part >= 0) parts[part]++;
            }
            run.compareAll();
            if (run.wrong != 0) System.out.println("seed " + seed + " differs after " + run.latest);
            wrong += run.wrong;
            for (int i = 0; i < 16; i++) codes[i] += run.answers[i];
        }
        // A comparison in which an answer never came up would say nothing about it.
        for (int i = 0; i < 16; i++) if (codes[i] == 0) { System.out.println("no call answered " + (i - 1)); wrong++; }
        for (int i = 0; i < 8; i++) if (parts[i] == 0) { System.out.println("no fault in part " + i); wrong++; }
        System.out.println(RUNS + " runs compared, " + wrong + " answers differ");
        if (wrong != 0) System.exit(1);
    }

    /** Mostly a number as said, from low to high; sometimes one beside them. */
    private int pick(int low, int high) {
        if (random.nextInt(oddity * 3) == 0) return random.nextBoolean() ? low - 1 - random.nextInt(3) : high + 1 + random.nextInt(3);
        if (random.nextInt(oddity * 20) == 0) return random.nextBoolean() ? Integer.MIN_VALUE + random.nextInt(2) : Integer.MAX_VALUE - random.nextInt(2);
        return low + random.nextInt(high - low + 1);
    }

    private int name() { return random.nextInt(4) == 0 ? pick(0, 11) : pick(0, names - 1); }

    private void same(String call, long got, long want) {
        latest = call;
        if (got != want) {
            wrong++;
            System.out.println(call + " answered " + got + ", the model says " + want);
        }
    }
    private void same(String call, boolean got, boolean want) { same(call, got ? 1L : 0L, want ? 1L : 0L); }
    private void sameCode(String call, int got, int want) {
        answers[want + 1]++;
        same(call, got, want);
    }

    private void step(boolean early) {
        int chosen = early ? random.nextInt(30) : random.nextInt(130);
        if (chosen < 22) define(chosen);
        else if (chosen < 45) alone(chosen);
        else if (chosen < 70) export(chosen);
        else if (chosen < 112) callOut();
        else see(chosen);
    }

    private void define(int chosen) {
        if (chosen < 16) {
            int at = pick(0, 6), name = name(), parent = random.nextInt(3) != 0 ? -1 : name(), shape = pick(0, 3), signer = random.nextInt(6) == 0 ? pick(0, 3) : 1;
            int flags = random.nextInt(8) == 0 ? pick(0, 7) : 1;
            same("offer(" + at + ", " + name + ", " + parent + ", " + shape + ", " + flags + ", " + signer + ")", desk.offer(at, name, parent, shape, flags, signer), model.offer(at, name, parent, shape, flags, signer));
        } else if (chosen < 18) {
            int at = pick(0, 6), name = name();
            same("withdraw(" + at + ", " + name + ")", desk.withdraw(at, name), model.withdraw(at, name));
        } else if (chosen < 20) {
            int codebase = pick(0, 3), set = pick(0, 4095);
            same("prefer(" + codebase + ", " + set + ")", desk.prefer(codebase, set), model.prefer(codebase, set));
        } else {
            int p = pick(0, 2), codebase = pick(-1, 3);
            same("annotate(" + p + ", " + codebase + ")", desk.annotate(p, codebase), model.annotate(p, codebase));
        }
    }

    private void alone(int chosen) {
        int p = pick(0, 2), v = pick(0, 3);
        if (chosen < 32) {
            int loader = random.nextBoolean() ? 4 : pick(0, 4), name = name();
            sameCode("make(" + p + ", " + loader + ", " + name + ", " + v + ")", desk.make(p, loader, name, v), model.make(p, loader, name, v));
        } else if (chosen < 40) {
            int k = pick(0, 1), x = random.nextInt(10) == 0 ? random.nextInt() : pick(0, 3);
            same("put(" + p + ", " + v + ", " + k + ", " + x + ")", desk.put(p, v, k, x), model.put(p, v, k, x));
        } else if (chosen < 43) {
            int w = pick(-1, 3);
            same("let(" + p + ", " + v + ", " + w + ")", desk.let(p, v, w), model.let(p, v, w));
        } else {
            int k = pick(0, 1);
            same("walk(" + p + ", " + v + ", " + k + ")", desk.walk(p, v, k), model.walk(p, v, k));
        }
    }

    private void export(int chosen) {
        int p = pick(0, 2), v = pick(0, 3);
        if (chosen < 51) {
            int label = pick(-1, 3);
            same("bind(" + p + ", " + label + ", " + v + ")", desk.bind(p, label, v), model.bind(p, label, v));
        } else if (chosen < 52) {
            same("unbind(" + p + ", " + v + ")", desk.unbind(p, v), model.unbind(p, v));
        } else if (chosen < 53) {
            same("retire(" + p + ", " + v + ")", desk.retire(p, v), model.retire(p, v));
        } else if (chosen < 60) {
            int q = pick(0, 2), label = pick(0, 3);
            sameCode("lookup(" + p + ", " + q + ", " + label + ", " + v + ")", desk.lookup(p, q, label, v), model.lookup(p, q, label, v));
        } else if (chosen < 62) {
            int q = pick(0, 2);
            boolean on = random.nextInt(3) != 0;
            same("link(" + p + ", " + q + ", " + on + ")", desk.link(p, q, on), model.link(p, q, on));
        } else if (chosen < 67) {
            same("collect(" + p + ")", desk.collect(p), model.collect(p));
        } else {
            int n = random.nextInt(30) == 0 ? pick(0, 400) : pick(0, 7);
            same("tick(" + n + ")", desk.tick(n), model.tick(n));
        }
    }

    private void callOut() {
        int p = pick(0, 2), v = pick(0, 3), m = pick(0, 5), a = pick(0, 3), r = pick(0, 3);
        for (int i = 0; i < 4 && model.look(p, v, 0, 0, 2) != 2; i++) {
            p = random.nextInt(3);
            v = random.nextInt(4);
        }
        sameCode("call(" + p + ", " + v + ", " + m + ", " + a + ", " + r + ")", desk.call(p, v, m, a, r), model.call(p, v, m, a, r));
        seeFault();
        if (p >= 0 && p <= 2 && model.state(p, 0) == 12 && random.nextBoolean()) same("collect(" + p + ")", desk.collect(p), model.collect(p));
    }

    private void seeFault() {
        for (int what = -1; what <= 2; what++) same("fault(" + what + ")", desk.fault(what), model.fault(what));
    }

    private void see(int chosen) {
        int p = pick(0, 2), v = pick(0, 3);
        if (chosen < 116) {
            int path = random.nextInt(), n = pick(0, 8) / (1 + random.nextInt(4)), what = pick(0, 6);
            same("look(" + p + ", " + v + ", " + path + ", " + n + ", " + what + ")", desk.look(p, v, path, n, what), model.look(p, v, path, n, what));
        } else if (chosen < 120) {
            same("digest(" + p + ", " + v + ")", desk.digest(p, v), model.digest(p, v));
        } else if (chosen < 124) {
            int loader = pick(0, 4), name = name(), what = pick(0, 5);
            same("known(" + p + ", " + loader + ", " + name + ", " + what + ")", desk.known(p, loader, name, what), model.known(p, loader, name, what));
        } else if (chosen < 127) {
            int q = pick(0, 2), ticket = pick(0, 5);
            same("lease(" + q + ", " + ticket + ", " + p + ")", desk.lease(q, ticket, p), model.lease(q, ticket, p));
        } else {
            int what = pick(0, 3);
            same("state(" + p + ", " + what + ")", desk.state(p, what), model.state(p, what));
        }
    }

    private void compareAll() {
        for (int p = 0; p < 3; p++) {
            for (int v = 0; v < 4; v++) same("digest(" + p + ", " + v + ")", desk.digest(p, v), model.digest(p, v));
            for (int what = 0; what < 4; what++) same("state(" + p + ", " + what + ")", desk.state(p, what), model.state(p, what));
            for (int loader = 0; loader < 5; loader++) for (int name = 0; name < 12; name++) for (int what = 0; what < 6; what++)
                same("known(" + p + ", " + loader + ", " + name + ", " + what + ")", desk.known(p, loader, name, what), model.known(p, loader, name, what));
            for (int ticket = 0; ticket < 40; ticket++) for (int q = 0; q < 3; q++)
                same("lease(" + q + ", " + ticket + ", " + p + ")", desk.lease(q, ticket, p), model.lease(q, ticket, p));
        }
    }
}
