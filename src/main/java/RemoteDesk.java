/**
 * A desk for objects that are called from other places.
 *
 * How things are numbered inside, over all places at once:
 * an object is place * 12 + its number there; a SLOT, a name at a LOADER, is (place * 5 + loader) * 12 + name.
 * A LOADER DEFINES at most one class of a name, so a class is numbered by the SLOT that DEFINED it.
 */
public final class RemoteDesk {
    public static final int BAD = -1, OK = 0, NOTFOUND = 1, PROHIBITED = 2, SPOILED = 3, CIRCLE = 4, SIGNERS = 5, INIT = 6, GONE = 7, WRONG = 8, FULL = 9, UNSENDABLE = 10, UNLINKED = 11, NOSUCH = 12, MISFIT = 13, THROWN = 14;
    public static final long NONE = 1L << 40;

    private static final int NOTHING = -1;

    private static final int PLACES = 3;
    private static final int CODEBASES = 4;
    private static final int SOURCES = CODEBASES + PLACES;
    private static final int NAMES = 12;
    private static final int PACKAGE_SIZE = 4;
    private static final int LAST_FOREIGN_NAME = 7;
    private static final int OWN_LOADER = 4;
    private static final int LOADERS = 5;
    private static final int ALL_DEFINITIONS = SOURCES * NAMES;
    private static final int ALL_LOADERS = PLACES * LOADERS;
    private static final int ALL_SLOTS = ALL_LOADERS * NAMES;

    // Where the parts of a DEFINITION lie in its int; the SIGNER is the topmost.
    private static final int PARENT_SHIFT = 1;
    private static final int SHAPE_SHIFT = 5;
    private static final int FLAGS_SHIFT = 7;
    private static final int SIGNER_SHIFT = 10;

    private static final int FLAG_SENDABLE = 1;
    private static final int FLAG_SPOILED = 2;
    private static final int FLAG_FAILING = 4;

    private static final int FRESH = 0;
    private static final int READY = 1;
    private static final int BROKEN = 2;

    private static final int OBJECTS = 12;
    private static final int CELLS = 2;
    private static final int ALL_OBJECTS = PLACES * OBJECTS;
    private static final int ALL_CELLS = ALL_OBJECTS * CELLS;
    private static final int FREE = 0;
    private static final int PLAIN = 1;
    private static final int STUB = 2;

    private static final int HOLDERS = 4;
    private static final int ALL_HOLDERS = PLACES * HOLDERS;
    private static final int ALL_LEASES = ALL_OBJECTS * PLACES;
    private static final int ALL_PAIRS = PLACES * PLACES;
    private static final int LEASE_TIME = 10;
    private static final int RENEWAL_PERIOD = 4;
    private static final int MOST_TICKS = 400;

    // PARENTs lead through at most all names of a LOADER 0..3 and then all names of LOADER 4.
    private static final int CHAIN = 2 * NAMES;
    // The root, and the CELLS of each of the 12 objects that can be met.
    private static final int STACK = 1 + OBJECTS * CELLS;
    private static final int ITEM_CELLS = OBJECTS * CELLS;
    private static final int MOST_STEPS = 8;
    // Beside NOTHING, which a METHOD may give.
    private static final int GIVES_MISFIT = -2;

    private final int[] definitions = new int[ALL_DEFINITIONS];
    private final int[] preferred = new int[CODEBASES];
    private final int[] annotation = new int[PLACES];
    private final int[] noted = new int[ALL_LOADERS];
    private final int[] knows = new int[ALL_SLOTS];
    private final int[] classDefinition = new int[ALL_SLOTS];
    private final int[] classParent = new int[ALL_SLOTS];
    private final int[] classStatus = new int[ALL_SLOTS];

    private final int[] kind = new int[ALL_OBJECTS];
    private final int[] classOf = new int[ALL_OBJECTS];
    private final int[] cells = new int[ALL_CELLS];
    private final int[] ticketOf = new int[ALL_OBJECTS];
    private final int[] homeOf = new int[ALL_OBJECTS];
    private final int[] variables = new int[ALL_HOLDERS];
    private final int[] labels = new int[ALL_HOLDERS];

    private final int[] ticketsGiven = new int[PLACES];
    private final int[] leaseUntil = new int[ALL_LEASES];
    private final boolean[] cut = new boolean[ALL_PAIRS];
    private int time = 0;

    private final int[] chain = new int[CHAIN];
    private final int[] stack = new int[STACK];
    private final boolean[] stays = new boolean[ALL_OBJECTS];

    private int itemCount = 0;
    private final int[] itemObject = new int[OBJECTS];
    private final int[] orderOf = new int[ALL_OBJECTS];
    private final int[] itemName = new int[OBJECTS];
    private final int[] itemShape = new int[OBJECTS];
    private final int[] itemSource = new int[OBJECTS];
    private final int[] itemPlace = new int[OBJECTS];
    private final int[] itemTicket = new int[OBJECTS];
    private final int[] itemCells = new int[ITEM_CELLS];
    private final int[] readObject = new int[OBJECTS];

    private int faultPart = NOTHING;
    private int faultName = NOTHING;

    public RemoteDesk() {
        for (int i = 0; i < PLACES; i++) {
            annotation[i] = NOTHING;
        }
        for (int i = 0; i < ALL_LOADERS; i++) {
            noted[i] = NOTHING;
        }
        for (int i = 0; i < ALL_SLOTS; i++) {
            knows[i] = NOTHING;
            classParent[i] = NOTHING;
        }
        for (int i = 0; i < ALL_HOLDERS; i++) {
            variables[i] = NOTHING;
            labels[i] = NOTHING;
        }
    }

    // ---- definitions ----

    public boolean offer(int at, int name, int parent, int shape, int flags, int signer) {
        if (!isBelow(at, SOURCES) || !isBelow(name, NAMES) || !isNothingOrBelow(parent, NAMES)) {
            return false;
        }
        if (!isBelow(shape, 4) || !isBelow(flags, 8) || !isBelow(signer, 4)) {
            return false;
        }
        // The lowest bit keeps a DEFINITION apart from 0, which is none.
        definitions[at * NAMES + name] = 1 | ((parent + 1) << PARENT_SHIFT) | (shape << SHAPE_SHIFT)
                | (flags << FLAGS_SHIFT) | (signer << SIGNER_SHIFT);
        return true;
    }

    public boolean withdraw(int at, int name) {
        if (!isBelow(at, SOURCES) || !isBelow(name, NAMES) || definitions[at * NAMES + name] == 0) {
            return false;
        }
        definitions[at * NAMES + name] = 0;
        return true;
    }

    public boolean prefer(int codebase, int set) {
        if (!isBelow(codebase, CODEBASES) || !isBelow(set, 1 << NAMES)) {
            return false;
        }
        preferred[codebase] = set;
        return true;
    }

    public boolean annotate(int p, int codebase) {
        if (!isBelow(p, PLACES) || !isNothingOrBelow(codebase, CODEBASES)) {
            return false;
        }
        annotation[p] = codebase;
        return true;
    }

    // ---- objects at one place ----

    public int make(int p, int loader, int name, int v) {
        if (!isHolder(p, v) || !isBelow(loader, LOADERS) || !isBelow(name, NAMES)) {
            return BAD;
        }
        int loaded = loadClass(p, loader, name);
        if (loaded < 0) {
            return -loaded;
        }
        int object = newPlain(p, loaded);
        if (object < 0) {
            return -object;
        }
        variables[p * HOLDERS + v] = object;
        return OK;
    }

    public boolean put(int p, int v, int k, int x) {
        int object = heldBy(p, v);
        if (object == NOTHING || kind[object] != PLAIN || !isBelow(k, CELLS)) {
            return false;
        }
        int value = x;
        if (isRef(object, k)) {
            value = heldBy(p, x);
        }
        cells[object * CELLS + k] = value;
        return true;
    }

    public boolean let(int p, int v, int w) {
        if (!isHolder(p, v) || !isNothingOrBelow(w, HOLDERS)) {
            return false;
        }
        variables[p * HOLDERS + v] = heldBy(p, w);
        return true;
    }

    public boolean walk(int p, int v, int k) {
        int object = heldBy(p, v);
        if (object == NOTHING || !isBelow(k, CELLS) || !isRef(object, k)) {
            return false;
        }
        variables[p * HOLDERS + v] = cells[object * CELLS + k];
        return true;
    }

    // ---- exported objects, labels and links ----

    public int bind(int p, int label, int v) {
        int object = heldBy(p, v);
        if (object == NOTHING || kind[object] != PLAIN || !isNothingOrBelow(label, HOLDERS)) {
            return BAD;
        }
        if (ticketOf[object] == 0) {
            ticketsGiven[p]++;
            ticketOf[object] = ticketsGiven[p];
        }
        if (label != NOTHING) {
            labels[p * HOLDERS + label] = object;
        }
        return ticketOf[object];
    }

    public boolean unbind(int p, int label) {
        if (!isHolder(p, label) || labels[p * HOLDERS + label] == NOTHING) {
            return false;
        }
        labels[p * HOLDERS + label] = NOTHING;
        return true;
    }

    public boolean retire(int p, int v) {
        int object = heldBy(p, v);
        if (object == NOTHING || !isExported(object)) {
            return false;
        }
        ticketOf[object] = 0;
        dropLeasesOn(object);
        return true;
    }

    public int lookup(int p, int q, int label, int v) {
        if (!isHolder(p, v) || !isHolder(q, label)) {
            return BAD;
        }
        if (cut[p * PLACES + q]) {
            return UNLINKED;
        }
        int object = labels[q * HOLDERS + label];
        if (object == NOTHING || !isExported(object)) {
            return NOSUCH;
        }
        int stub = newStub(p, q, ticketOf[object]);
        if (stub < 0) {
            return -stub;
        }
        variables[p * HOLDERS + v] = stub;
        return OK;
    }

    public boolean link(int p, int q, boolean on) {
        if (!isBelow(p, PLACES) || !isBelow(q, PLACES) || p == q || cut[p * PLACES + q] != on) {
            return false;
        }
        cut[p * PLACES + q] = !on;
        cut[q * PLACES + p] = !on;
        return true;
    }

    // ---- calls ----

    public int call(int p, int v, int m, int a, int r) {
        int stub = heldBy(p, v);
        if (stub == NOTHING || kind[stub] != STUB || !isBelow(m, 6) || !isHolder(p, a) || !isHolder(p, r)) {
            return BAD;
        }
        int q = homeOf[stub];
        faultName = NOTHING;
        // Each PART is noted before it is done, so that one that ends the CALL is the one noted.
        faultPart = 1;
        int error = writeGraph(p, variables[p * HOLDERS + a]);
        if (error != OK) {
            return error;
        }
        faultPart = 2;
        if (cut[p * PLACES + q]) {
            return UNLINKED;
        }
        faultPart = 3;
        int target = exportedWith(q, ticketOf[stub]);
        if (target == NOTHING) {
            return NOSUCH;
        }
        faultPart = 4;
        error = readGraph(q);
        if (error != OK) {
            return error;
        }
        faultPart = 5;
        int argument = rootRead();
        int given = perform(m, target, argument);
        if (given == GIVES_MISFIT) {
            return MISFIT;
        }
        faultPart = 6;
        error = writeGraph(q, given);
        if (error != OK) {
            return error;
        }
        faultPart = 7;
        error = readGraph(p);
        if (error != OK) {
            return error;
        }
        faultPart = 0;
        variables[p * HOLDERS + r] = rootRead();
        return m == 5 ? THROWN : OK;
    }

    // ---- collecting and time ----

    public int collect(int p) {
        if (!isBelow(p, PLACES)) {
            return BAD;
        }
        markHeld(p);
        markReached(p);
        endLeasesOfGoingStubs(p);
        return removeGoing(p);
    }

    public int tick(int n) {
        if (n < 0 || n > MOST_TICKS) {
            return BAD;
        }
        for (int i = 0; i < n; i++) {
            time++;
            if (time % RENEWAL_PERIOD == 0) {
                renewAll();
            }
            endLeases();
        }
        return time;
    }

    // ---- what can be seen ----

    public long look(int p, int v, int path, int n, int what) {
        if (n < 0 || n > MOST_STEPS) {
            return NONE;
        }
        int object = heldBy(p, v);
        for (int i = 0; i < n && object != NOTHING; i++) {
            object = refFrom(object, (path >>> i) & 1);
        }
        if (object == NOTHING) {
            return NONE;
        }
        return kind[object] == PLAIN ? sightOfPlain(object, what) : sightOfStub(object, what);
    }

    public long digest(int p, int v) {
        if (!isHolder(p, v)) {
            return NONE;
        }
        orderGraph(variables[p * HOLDERS + v], true);
        long sum = 1;
        for (int i = 0; i < itemCount; i++) {
            sum = digestObject(sum, itemObject[i]);
        }
        return sum;
    }

    public int known(int p, int loader, int name, int what) {
        if (!isBelow(p, PLACES) || !isBelow(loader, LOADERS) || !isBelow(name, NAMES)) {
            return BAD;
        }
        int found = knows[(p * LOADERS + loader) * NAMES + name];
        if (found == NOTHING) {
            return BAD;
        }
        int definition = classDefinition[found];
        switch (what) {
            case 0: return loaderOf(found);
            case 1: return classStatus[found];
            case 2: return shapeIn(definition);
            case 3: return flagsIn(definition);
            case 4: return signerIn(definition);
            case 5: return parentIn(definition);
            default: return BAD;
        }
    }

    public int lease(int q, int ticket, int p) {
        if (!isBelow(q, PLACES) || !isBelow(p, PLACES)) {
            return BAD;
        }
        int object = exportedWith(q, ticket);
        if (object == NOTHING || leaseUntil[object * PLACES + p] == 0) {
            return BAD;
        }
        return leaseUntil[object * PLACES + p];
    }

    public int state(int p, int what) {
        if (!isBelow(p, PLACES)) {
            return BAD;
        }
        switch (what) {
            case 0: return countObjects(p, false);
            case 1: return countClasses(p);
            case 2: return ticketsGiven[p];
            case 3: return countObjects(p, true);
            default: return BAD;
        }
    }

    public int fault(int what) {
        if (faultPart == NOTHING || !isBelow(what, 2)) {
            return BAD;
        }
        return what == 0 ? faultPart : faultName;
    }

    // ---- numbers as said ----

    private static boolean isBelow(int number, int bound) {
        return number >= 0 && number < bound;
    }

    private static boolean isNothingOrBelow(int number, int bound) {
        return number >= NOTHING && number < bound;
    }

    private static boolean isHolder(int p, int holder) {
        return p >= 0 && p < PLACES && holder >= 0 && holder < HOLDERS;
    }

    private int heldBy(int p, int v) {
        return isHolder(p, v) ? variables[p * HOLDERS + v] : NOTHING;
    }

    // ---- parts of a DEFINITION and of a SLOT ----

    private static int parentIn(int definition) {
        return ((definition >> PARENT_SHIFT) & 15) - 1;
    }

    private static int shapeIn(int definition) {
        return (definition >> SHAPE_SHIFT) & 3;
    }

    private static int flagsIn(int definition) {
        return (definition >> FLAGS_SHIFT) & 7;
    }

    private static int signerIn(int definition) {
        return definition >> SIGNER_SHIFT;
    }

    private static int nameOf(int slot) {
        return slot % NAMES;
    }

    private static int loaderOf(int slot) {
        return slot / NAMES % LOADERS;
    }

    // ---- loading ----

    /** The class, or an ERROR as its negative. */
    private int loadClass(int place, int loader, int name) {
        notePreferred(place, loader);
        int slot = (place * LOADERS + loader) * NAMES + name;
        int depth = 0;
        while (depth < CHAIN && slot != NOTHING && knows[slot] == NOTHING) {
            chain[depth] = slot;
            if (delegates(slot)) {
                slot = slot + (OWN_LOADER - loader) * NAMES;
            } else {
                int definition = definitionFor(slot);
                int parent = parentSlot(slot, definition);
                int error = refusal(slot, definition);
                if (error == OK && isLoading(parent, depth)) {
                    error = CIRCLE;
                }
                // All that wait for this one give its ERROR, and nothing changes for them.
                if (error != OK) {
                    return -error;
                }
                slot = parent;
            }
            depth++;
        }
        int found = slot == NOTHING ? NOTHING : knows[slot];
        return defineWaiting(depth, found);
    }

    /** Goes back through the chain, from the class that its last SLOT waits for (or NOTHING). */
    private int defineWaiting(int depth, int awaited) {
        int found = awaited;
        for (int i = depth - 1; i >= 0; i--) {
            int slot = chain[i];
            if (!delegates(slot)) {
                int definition = definitionFor(slot);
                if (loaderOf(slot) != OWN_LOADER && hasOtherSigner(slot, definition)) {
                    return -SIGNERS;
                }
                classDefinition[slot] = definition;
                classParent[slot] = found;
                classStatus[slot] = FRESH;
                found = slot;
            }
            knows[slot] = found;
        }
        return found;
    }

    private void notePreferred(int place, int loader) {
        int index = place * LOADERS + loader;
        if (loader != OWN_LOADER && noted[index] == NOTHING) {
            noted[index] = preferred[loader];
        }
    }

    /** Whether a LOADER 0..3 leaves the name to LOADER 4. */
    private boolean delegates(int slot) {
        int name = slot % NAMES;
        int index = slot / NAMES;
        int place = index / LOADERS;
        boolean isPreferred = ((noted[index] >> name) & 1) == 1;
        boolean isForeign = index % LOADERS != OWN_LOADER;
        return isForeign && !isPreferred && definitions[(CODEBASES + place) * NAMES + name] != 0;
    }

    private int definitionFor(int slot) {
        int index = slot / NAMES;
        int loader = index % LOADERS;
        int source = loader == OWN_LOADER ? CODEBASES + index / LOADERS : loader;
        return definitions[source * NAMES + slot % NAMES];
    }

    private static int parentSlot(int slot, int definition) {
        int parent = parentIn(definition);
        return parent == NOTHING ? NOTHING : slot - slot % NAMES + parent;
    }

    /** The first ERROR for which the PARENT need not be looked at, or OK. */
    private static int refusal(int slot, int definition) {
        if (definition == 0) {
            return NOTFOUND;
        }
        if (loaderOf(slot) == OWN_LOADER) {
            return OK;
        }
        if (nameOf(slot) > LAST_FOREIGN_NAME) {
            return PROHIBITED;
        }
        return (flagsIn(definition) & FLAG_SPOILED) != 0 ? SPOILED : OK;
    }

    private boolean isLoading(int slot, int depth) {
        for (int i = 0; i <= depth && i < CHAIN; i++) {
            if (chain[i] == slot) {
                return true;
            }
        }
        return false;
    }

    private boolean hasOtherSigner(int slot, int definition) {
        // The SLOTS of a LOADER begin at a multiple of PACKAGE_SIZE, as its names do.
        int first = slot - slot % PACKAGE_SIZE;
        for (int i = first; i < first + PACKAGE_SIZE; i++) {
            int other = classDefinition[i];
            if (other != 0 && other >> SIGNER_SHIFT != definition >> SIGNER_SHIFT) {
                return true;
            }
        }
        return false;
    }

    /** OK or the ERROR. */
    private int readyClass(int wanted) {
        int depth = 0;
        int top = wanted;
        while (depth < CHAIN && top != NOTHING && classStatus[top] == FRESH) {
            chain[depth] = top;
            top = classParent[top];
            depth++;
        }
        int error = OK;
        if (top != NOTHING && classStatus[top] == BROKEN) {
            error = GONE;
        }
        for (int i = depth - 1; i >= 0; i--) {
            int fresh = chain[i];
            if (error == OK && (flagsIn(classDefinition[fresh]) & FLAG_FAILING) != 0) {
                error = INIT;
            }
            classStatus[fresh] = error == OK ? READY : BROKEN;
        }
        return error;
    }

    private int countClasses(int place) {
        int count = 0;
        for (int i = 0; i < LOADERS * NAMES; i++) {
            if (classDefinition[place * LOADERS * NAMES + i] != 0) {
                count++;
            }
        }
        return count;
    }

    // ---- objects ----

    private int freeObject(int place) {
        for (int i = 0; i < OBJECTS; i++) {
            if (kind[place * OBJECTS + i] == FREE) {
                return place * OBJECTS + i;
            }
        }
        return NOTHING;
    }

    /** READIES the class: a new object of it, or an ERROR as its negative. */
    private int newPlain(int place, int ofClass) {
        int error = readyClass(ofClass);
        if (error != OK) {
            return -error;
        }
        int object = freeObject(place);
        if (object == NOTHING) {
            return -FULL;
        }
        kind[object] = PLAIN;
        classOf[object] = ofClass;
        ticketOf[object] = 0;
        homeOf[object] = place;
        for (int k = 0; k < CELLS; k++) {
            cells[object * CELLS + k] = isRef(object, k) ? NOTHING : 0;
        }
        return object;
    }

    /** A new STUB, RENEWED, or an ERROR as its negative. */
    private int newStub(int place, int home, int ticket) {
        int object = freeObject(place);
        if (object == NOTHING) {
            return -FULL;
        }
        kind[object] = STUB;
        ticketOf[object] = ticket;
        homeOf[object] = home;
        renew(object);
        return object;
    }

    private boolean isRef(int object, int k) {
        return kind[object] == PLAIN && ((shapeIn(classDefinition[classOf[object]]) >> k) & 1) == 1;
    }

    private int refFrom(int object, int k) {
        return isRef(object, k) ? cells[object * CELLS + k] : NOTHING;
    }

    private boolean isExported(int object) {
        return kind[object] == PLAIN && ticketOf[object] > 0;
    }

    private int exportedWith(int place, int ticket) {
        for (int i = 0; i < OBJECTS; i++) {
            int object = place * OBJECTS + i;
            // A ticket of 0 is held by all that are not EXPORTED, and may be asked for.
            if (kind[object] == PLAIN && ticketOf[object] > 0 && ticketOf[object] == ticket) {
                return object;
            }
        }
        return NOTHING;
    }

    private int countObjects(int place, boolean exportedOnly) {
        int count = 0;
        for (int i = 0; i < OBJECTS; i++) {
            int object = place * OBJECTS + i;
            if (exportedOnly ? isExported(object) : kind[object] != FREE) {
                count++;
            }
        }
        return count;
    }

    // ---- leases ----

    private void renew(int stub) {
        int place = stub / OBJECTS;
        int home = homeOf[stub];
        if (cut[place * PLACES + home]) {
            return;
        }
        int object = exportedWith(home, ticketOf[stub]);
        if (object != NOTHING) {
            leaseUntil[object * PLACES + place] = time + LEASE_TIME;
        }
    }

    private void renewAll() {
        for (int i = 0; i < ALL_OBJECTS; i++) {
            if (kind[i] == STUB) {
                renew(i);
            }
        }
    }

    private void endLeases() {
        for (int i = 0; i < ALL_LEASES; i++) {
            if (leaseUntil[i] <= time) {
                leaseUntil[i] = 0;
            }
        }
    }

    private void dropLeasesOn(int object) {
        for (int i = 0; i < PLACES; i++) {
            leaseUntil[object * PLACES + i] = 0;
        }
    }

    private boolean isLeased(int object) {
        for (int i = 0; i < PLACES; i++) {
            if (leaseUntil[object * PLACES + i] > 0) {
                return true;
            }
        }
        return false;
    }

    // ---- collecting ----

    private void markHeld(int place) {
        for (int i = 0; i < OBJECTS; i++) {
            int object = place * OBJECTS + i;
            stays[object] = isExported(object) && isLeased(object);
        }
        for (int i = 0; i < HOLDERS; i++) {
            markStaying(variables[place * HOLDERS + i]);
            markStaying(labels[place * HOLDERS + i]);
        }
    }

    private void markStaying(int object) {
        if (object != NOTHING) {
            stays[object] = true;
        }
    }

    private void markReached(int place) {
        // No way without a circle is longer than there are objects.
        for (int round = 0; round < OBJECTS; round++) {
            for (int i = 0; i < OBJECTS; i++) {
                markNext(place * OBJECTS + i);
            }
        }
    }

    private void markNext(int object) {
        if (!stays[object]) {
            return;
        }
        for (int k = 0; k < CELLS; k++) {
            int next = refFrom(object, k);
            markStaying(next);
        }
    }

    private void endLeasesOfGoingStubs(int place) {
        for (int i = 0; i < OBJECTS; i++) {
            int stub = place * OBJECTS + i;
            if (kind[stub] == STUB && !stays[stub] && !hasStayingTwin(stub)) {
                endLeaseOf(stub);
            }
        }
    }

    private boolean hasStayingTwin(int stub) {
        int first = stub - stub % OBJECTS;
        for (int i = first; i < first + OBJECTS; i++) {
            if (kind[i] == STUB && stays[i] && homeOf[i] == homeOf[stub] && ticketOf[i] == ticketOf[stub]) {
                return true;
            }
        }
        return false;
    }

    private void endLeaseOf(int stub) {
        int place = stub / OBJECTS;
        int home = homeOf[stub];
        int object = exportedWith(home, ticketOf[stub]);
        if (object != NOTHING && !cut[place * PLACES + home]) {
            leaseUntil[object * PLACES + place] = 0;
        }
    }

    private int removeGoing(int place) {
        int count = 0;
        for (int i = 0; i < OBJECTS; i++) {
            int object = place * OBJECTS + i;
            if (kind[object] != FREE && !stays[object]) {
                kind[object] = FREE;
                ticketOf[object] = 0;
                dropLeasesOn(object);
                count++;
            }
        }
        return count;
    }

    // ---- graphs ----

    /** Fills itemObject and orderOf with what is met from the root on. */
    private void orderGraph(int root, boolean throughExported) {
        for (int i = 0; i < ALL_OBJECTS; i++) {
            orderOf[i] = NOTHING;
        }
        itemCount = 0;
        stack[0] = root;
        int waiting = 1;
        for (int taken = 0; taken < STACK && waiting > 0; taken++) {
            waiting--;
            int object = stack[waiting];
            if (object != NOTHING && orderOf[object] == NOTHING) {
                orderOf[object] = itemCount;
                itemObject[itemCount] = object;
                itemCount++;
                if (throughExported || !isExported(object)) {
                    // CELL 0 lies on top, so that all from it on is met before CELL 1 is looked at.
                    stack[waiting] = refFrom(object, 1);
                    stack[waiting + 1] = refFrom(object, 0);
                    waiting += 2;
                }
            }
        }
    }

    /** OK or the ERROR. */
    private int writeGraph(int place, int root) {
        orderGraph(root, false);
        for (int i = 0; i < itemCount; i++) {
            int object = itemObject[i];
            if (kind[object] == STUB || isExported(object)) {
                itemName[i] = NOTHING;
                itemPlace[i] = homeOf[object];
                itemTicket[i] = ticketOf[object];
            } else if ((flagsIn(classDefinition[classOf[object]]) & FLAG_SENDABLE) == 0) {
                faultName = nameOf(classOf[object]);
                return UNSENDABLE;
            } else {
                writePlain(place, i);
            }
        }
        return OK;
    }

    private void writePlain(int place, int item) {
        int object = itemObject[item];
        int ofClass = classOf[object];
        int loader = loaderOf(ofClass);
        itemName[item] = nameOf(ofClass);
        itemShape[item] = shapeIn(classDefinition[ofClass]);
        itemSource[item] = loader == OWN_LOADER ? annotation[place] : loader;
        for (int k = 0; k < CELLS; k++) {
            int value = cells[object * CELLS + k];
            if (isRef(object, k)) {
                value = value == NOTHING ? NOTHING : orderOf[value];
            }
            itemCells[item * CELLS + k] = value;
        }
    }

    /** OK or the ERROR. */
    private int readGraph(int place) {
        for (int i = 0; i < itemCount; i++) {
            int object = itemName[i] == NOTHING ? newStub(place, itemPlace[i], itemTicket[i]) : readPlain(place, i);
            if (object < 0) {
                faultName = itemName[i];
                return -object;
            }
            readObject[i] = object;
        }
        for (int i = 0; i < itemCount; i++) {
            if (itemName[i] != NOTHING) {
                fillCells(i);
            }
        }
        return OK;
    }

    /** A new object for an ITEM that is no STUB, or an ERROR as its negative. */
    private int readPlain(int place, int item) {
        int loader = itemSource[item] == NOTHING ? OWN_LOADER : itemSource[item];
        int loaded = loadClass(place, loader, itemName[item]);
        if (loaded < 0) {
            return loaded;
        }
        if (shapeIn(classDefinition[loaded]) != itemShape[item]) {
            return -WRONG;
        }
        return newPlain(place, loaded);
    }

    private void fillCells(int item) {
        int object = readObject[item];
        for (int k = 0; k < CELLS; k++) {
            int value = itemCells[item * CELLS + k];
            if (isRef(object, k)) {
                value = value == NOTHING ? NOTHING : readObject[value];
            }
            cells[object * CELLS + k] = value;
        }
    }

    private int rootRead() {
        return itemCount == 0 ? NOTHING : readObject[0];
    }

    // ---- methods ----

    /** What METHOD m gives (an object or NOTHING), or GIVES_MISFIT. */
    private int perform(int m, int target, int argument) {
        switch (m) {
            case 0:
            case 1: return exchange(target, m, argument);
            case 2: return addNumber(target, argument);
            case 4: return target;
            default: return argument;
        }
    }

    private int exchange(int target, int k, int argument) {
        if (!isRef(target, k)) {
            return GIVES_MISFIT;
        }
        int held = cells[target * CELLS + k];
        cells[target * CELLS + k] = argument;
        return held;
    }

    private int addNumber(int target, int argument) {
        if (argument == NOTHING || kind[argument] != PLAIN || isRef(argument, 0) || isRef(target, 0)) {
            return GIVES_MISFIT;
        }
        cells[target * CELLS] += cells[argument * CELLS];
        return argument;
    }

    // ---- sights ----

    private long sightOfPlain(int object, int what) {
        switch (what) {
            case 0:
            case 1: return sightOfCell(object, what);
            case 2: return PLAIN;
            case 3: return nameOf(classOf[object]);
            case 4: return loaderOf(classOf[object]);
            case 5: return ticketOf[object] > 0 ? ticketOf[object] : NONE;
            default: return NONE;
        }
    }

    private long sightOfStub(int object, int what) {
        switch (what) {
            case 2: return STUB;
            case 5: return ticketOf[object];
            case 6: return homeOf[object];
            default: return NONE;
        }
    }

    private long sightOfCell(int object, int k) {
        int value = cells[object * CELLS + k];
        if (isRef(object, k)) {
            return value == NOTHING ? 0 : 1;
        }
        return value;
    }

    private long digestObject(long before, int object) {
        if (kind[object] == STUB) {
            return (before * 31 + 100 + homeOf[object]) * 31 + ticketOf[object];
        }
        long sum = before * 31 + nameOf(classOf[object]);
        for (int k = 0; k < CELLS; k++) {
            int value = cells[object * CELLS + k];
            if (isRef(object, k)) {
                value = value == NOTHING ? NOTHING : orderOf[value];
            }
            sum = sum * 31 + value;
        }
        return sum;
    }
}
