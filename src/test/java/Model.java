import java.util.ArrayList;
import java.util.HashMap;
import java.util.HashSet;
import java.util.LinkedHashMap;
import java.util.List;
import java.util.Map;
import java.util.Set;

/** The document said once more, with objects, maps and recursion, for comparing with RemoteDesk. */
final class Model {
    static final class Err extends Exception {
        private static final long serialVersionUID = 1L;
        final int code;
        int name = -1;
        Err(int code) { super(null, null, false, false); this.code = code; }
    }

    record Def(int parent, int shape, int flags, int signer) { }

    static final class Cls {
        int name;
        Loader by;
        Def def;
        Cls parent;
        int status;
        boolean ref(int k) { return (def.shape() >> k & 1) == 1; }
    }

    static final class Loader {
        Place place;
        int number;
        Integer preferred;
        final Map<Integer, Cls> knows = new HashMap<>();
        final List<Cls> defined = new ArrayList<>();
        final Set<Integer> loading = new HashSet<>();
    }

    static final class Obj {
        Cls cls;
        final int[] numbers = new int[2];
        final Obj[] refs = new Obj[2];
        int ticket;
        Place stubOf;
        final Map<Place, Integer> leases = new HashMap<>();
        boolean plain() { return stubOf == null; }
        boolean exported() { return plain() && ticket > 0; }
    }

    static final class Place {
        int number;
        final Map<Integer, Def> defs = new HashMap<>();
        int annotation = -1;
        final Loader[] loaders = new Loader[5];
        final List<Obj> objects = new ArrayList<>();
        final Obj[] vars = new Obj[4];
        final Obj[] labels = new Obj[4];
        int tickets;
        final Set<Place> linked = new HashSet<>();
        Obj withTicket(int t) {
            for (Obj o : objects) if (o.exported() && o.ticket == t) return o;
            return null;
        }
    }

    static final class Item {
        int name = -1, shape, source, ticket;
        Place place;
        final int[] values = new int[2];
    }

    final List<Map<Integer, Def>> codebases = new ArrayList<>();
    final int[] preferred = new int[4];
    final Place[] places = new Place[3];
    int time, part = -1, faultName = -1;

    Model() {
        for (int i = 0; i < 4; i++) codebases.add(new HashMap<>());
        for (int i = 0; i < 3; i++) {
            Place p = places[i] = new Place();
            p.number = i;
            for (int l = 0; l < 5; l++) {
                p.loaders[l] = new Loader();
                p.loaders[l].place = p;
                p.loaders[l].number = l;
            }
        }
        for (Place p : places) for (Place q : places) p.linked.add(q);
    }

    private static boolean in(int x, int low, int high) { return low <= x && x <= high; }
    private static boolean pv(int p, int v) { return in(p, 0, 2) && in(v, 0, 3); }
    private Map<Integer, Def> source(int at) { return at < 4 ? codebases.get(at) : places[at - 4].defs; }

    boolean offer(int at, int name, int parent, int shape, int flags, int signer) {
        if (!in(at, 0, 6) || !in(name, 0, 11) || !in(parent, -1, 11) || !in(shape, 0, 3) || !in(flags, 0, 7) || !in(signer, 0, 3)) return false;
        source(at).put(name, new Def(parent, shape, flags, signer));
        return true;
    }
    boolean withdraw(int at, int name) { return in(at, 0, 6) && source(at).remove(name) != null; }
    boolean prefer(int codebase, int set) {
        if (!in(codebase, 0, 3) || !in(set, 0, 4095)) return false;
        preferred[codebase] = set;
        return true;
    }
    boolean annotate(int p, int codebase) {
        if (!in(p, 0, 2) || !in(codebase, -1, 3)) return false;
        places[p].annotation = codebase;
        return true;
    }

    private Cls load(Loader l, int name) throws Err {
        boolean own = l.number == 4;
        if (!own && l.preferred == null) l.preferred = preferred[l.number];
        if (l.knows.containsKey(name)) return l.knows.get(name);
        if (!own && (l.preferred >> name & 1) == 0 && l.place.defs.containsKey(name)) {
            Cls c = load(l.place.loaders[4], name);
            l.knows.put(name, c);
            return c;
        }
        Def d = (own ? l.place.defs : codebases.get(l.number)).get(name);
        if (d == null) throw new Err(1);
        if (!own && name > 7) throw new Err(2);
        if (!own && (d.flags() & 2) != 0) throw new Err(3);
        l.loading.add(name);
        try {
            if (l.loading.contains(d.parent())) throw new Err(4);
            Cls parent = d.parent() == -1 ? null : load(l, d.parent());
            if (!own) for (Cls c : l.defined) if (c.name / 4 == name / 4 && c.def.signer() != d.signer()) throw new Err(5);
            Cls c = new Cls();
            c.name = name;
            c.by = l;
            c.def = d;
            c.parent = parent;
            l.defined.add(c);
            l.knows.put(name, c);
            return c;
        } finally {
            l.loading.remove(name);
        }
    }

    private void ready(Cls c) throws Err {
        if (c.status == 1) return;
        if (c.status == 2) throw new Err(7);
        try {
            if (c.parent != null) ready(c.parent);
            if ((c.def.flags() & 4) != 0) throw new Err(6);
        } catch (Err e) {
            c.status = 2;
            throw e;
        }
        c.status = 1;
    }

    private Obj plain(Place p, Cls c) throws Err {
        ready(c);
        if (p.objects.size() == 12) throw new Err(9);
        Obj o = new Obj();
        o.cls = c;
        p.objects.add(o);
        return o;
    }
    private Obj stub(Place p, Place of, int ticket) throws Err {
        if (p.objects.size() == 12) throw new Err(9);
        Obj o = new Obj();
        o.stubOf = of;
        o.ticket = ticket;
        p.objects.add(o);
        renew(p, o);
        return o;
    }
    private void renew(Place p, Obj s) {
        if (!p.linked.contains(s.stubOf)) return;
        Obj o = s.stubOf.withTicket(s.ticket);
        if (o != null) o.leases.put(p, time + 10);
    }

    int make(int p, int loader, int name, int v) {
        if (!pv(p, v) || !in(loader, 0, 4) || !in(name, 0, 11)) return -1;
        try {
            places[p].vars[v] = plain(places[p], load(places[p].loaders[loader], name));
            return 0;
        } catch (Err e) {
            return e.code;
        }
    }
    private Obj held(int p, int v) { return pv(p, v) ? places[p].vars[v] : null; }

    boolean put(int p, int v, int k, int x) {
        Obj o = held(p, v);
        if (o == null || !o.plain() || !in(k, 0, 1)) return false;
        if (o.cls.ref(k)) o.refs[k] = held(p, x); else o.numbers[k] = x;
        return true;
    }
    boolean let(int p, int v, int w) {
        if (!pv(p, v) || !in(w, -1, 3)) return false;
        places[p].vars[v] = held(p, w);
        return true;
    }
    boolean walk(int p, int v, int k) {
        Obj o = held(p, v);
        if (o == null || !o.plain() || !in(k, 0, 1) || !o.cls.ref(k)) return false;
        places[p].vars[v] = o.refs[k];
        return true;
    }
    int bind(int p, int label, int v) {
        Obj o = held(p, v);
        if (o == null || !o.plain() || !in(label, -1, 3)) return -1;
        if (!o.exported()) o.ticket = ++places[p].tickets;
        if (label >= 0) places[p].labels[label] = o;
        return o.ticket;
    }
    boolean unbind(int p, int label) {
        if (!pv(p, label) || places[p].labels[label] == null) return false;
        places[p].labels[label] = null;
        return true;
    }
    boolean retire(int p, int v) {
        Obj o = held(p, v);
        if (o == null || !o.exported()) return false;
        o.ticket = 0;
        o.leases.clear();
        return true;
    }
    int lookup(int p, int q, int label, int v) {
        if (!pv(p, v) || !pv(q, label)) return -1;
        if (!places[p].linked.contains(places[q])) return 11;
        Obj o = places[q].labels[label];
        if (o == null || !o.exported()) return 12;
        try {
            places[p].vars[v] = stub(places[p], places[q], o.ticket);
            return 0;
        } catch (Err e) {
            return e.code;
        }
    }
    boolean link(int p, int q, boolean on) {
        if (!in(p, 0, 2) || !in(q, 0, 2) || p == q || places[p].linked.contains(places[q]) == on) return false;
        if (on) {
            places[p].linked.add(places[q]);
            places[q].linked.add(places[p]);
        } else {
            places[p].linked.remove(places[q]);
            places[q].linked.remove(places[p]);
        }
        return true;
    }

    private void meet(Obj o, boolean through, Map<Obj, Integer> order) {
        if (o == null || order.containsKey(o)) return;
        order.put(o, order.size());
        if (!o.plain() || (o.exported() && !through)) return;
        for (int k = 0; k < 2; k++) if (o.cls.ref(k)) meet(o.refs[k], through, order);
    }
    private List<Item> write(Place p, Obj root) throws Err {
        Map<Obj, Integer> order = new LinkedHashMap<>();
        meet(root, false, order);
        List<Item> items = new ArrayList<>();
        for (Obj o : order.keySet()) {
            Item i = new Item();
            items.add(i);
            if (!o.plain() || o.exported()) {
                i.place = o.plain() ? p : o.stubOf;
                i.ticket = o.ticket;
                continue;
            }
            i.name = o.cls.name;
            if ((o.cls.def.flags() & 1) == 0) {
                Err e = new Err(10);
                e.name = i.name;
                throw e;
            }
            i.shape = o.cls.def.shape();
            i.source = o.cls.by.number < 4 ? o.cls.by.number : p.annotation;
            for (int k = 0; k < 2; k++) i.values[k] = !o.cls.ref(k) ? o.numbers[k] : o.refs[k] == null ? -1 : order.get(o.refs[k]);
        }
        return items;
    }
    private Obj read(Place p, List<Item> items) throws Err {
        List<Obj> made = new ArrayList<>();
        for (Item i : items) {
            try {
                if (i.place != null) {
                    made.add(stub(p, i.place, i.ticket));
                } else {
                    Cls c = load(p.loaders[i.source == -1 ? 4 : i.source], i.name);
                    if (c.def.shape() != i.shape) throw new Err(8);
                    made.add(plain(p, c));
                }
            } catch (Err e) {
                e.name = i.name;
                throw e;
            }
        }
        for (int n = 0; n < made.size(); n++) {
            Obj o = made.get(n);
            Item i = items.get(n);
            if (!o.plain()) continue;
            for (int k = 0; k < 2; k++) {
                if (!o.cls.ref(k)) o.numbers[k] = i.values[k];
                else if (i.values[k] >= 0) o.refs[k] = made.get(i.values[k]);
            }
        }
        return made.isEmpty() ? null : made.get(0);
    }
    private Obj method(int m, Obj o, Obj x) throws Err {
        if (m < 2) {
            if (!o.cls.ref(m)) throw new Err(13);
            Obj old = o.refs[m];
            o.refs[m] = x;
            return old;
        }
        if (m == 2) {
            if (x == null || !x.plain() || x.cls.ref(0) || o.cls.ref(0)) throw new Err(13);
            o.numbers[0] += x.numbers[0];
        }
        return m == 4 ? o : x;
    }
    int call(int p, int v, int m, int a, int r) {
        Obj s = held(p, v);
        if (s == null || s.plain() || !in(m, 0, 5) || !in(a, 0, 3) || !in(r, 0, 3)) return -1;
        Place here = places[p];
        Place there = s.stubOf;
        faultName = -1;
        try {
            part = 1;
            List<Item> sent = write(here, here.vars[a]);
            part = 2;
            if (!here.linked.contains(there)) throw new Err(11);
            part = 3;
            Obj o = there.withTicket(s.ticket);
            if (o == null) throw new Err(12);
            part = 4;
            Obj x = read(there, sent);
            part = 5;
            Obj given = method(m, o, x);
            part = 6;
            List<Item> back = write(there, given);
            part = 7;
            here.vars[r] = read(here, back);
            part = 0;
            return m == 5 ? 14 : 0;
        } catch (Err e) {
            faultName = e.name;
            return e.code;
        }
    }

    private void stay(Obj o, Set<Obj> staying) {
        if (o == null || !staying.add(o) || !o.plain()) return;
        for (int k = 0; k < 2; k++) stay(o.refs[k], staying);
    }
    int collect(int n) {
        if (!in(n, 0, 2)) return -1;
        Place p = places[n];
        Set<Obj> staying = new HashSet<>();
        for (Obj o : p.vars) stay(o, staying);
        for (Obj o : p.labels) stay(o, staying);
        for (Obj o : p.objects) if (o.exported() && !o.leases.isEmpty()) stay(o, staying);
        List<Obj> going = new ArrayList<>(p.objects);
        going.removeAll(staying);
        p.objects.retainAll(staying);
        for (Obj s : going) {
            if (s.plain() || !p.linked.contains(s.stubOf)) continue;
            boolean twin = false;
            for (Obj t : p.objects) twin |= !t.plain() && t.stubOf == s.stubOf && t.ticket == s.ticket;
            Obj o = s.stubOf.withTicket(s.ticket);
            if (!twin && o != null) o.leases.remove(p);
        }
        return going.size();
    }
    int tick(int n) {
        if (!in(n, 0, 400)) return -1;
        for (int i = 0; i < n; i++) {
            time++;
            if (time % 4 == 0) for (Place p : places) for (Obj o : p.objects) if (!o.plain()) renew(p, o);
            for (Place p : places) for (Obj o : p.objects) o.leases.values().removeIf(t -> t == time);
        }
        return time;
    }

    long look(int p, int v, int path, int n, int what) {
        long none = 1L << 40;
        Obj o = held(p, v);
        if (!in(n, 0, 8) || !in(what, 0, 6)) return none;
        for (int i = 0; i < n; i++) {
            int k = path >> i & 1;
            if (o == null || !o.plain() || !o.cls.ref(k)) return none;
            o = o.refs[k];
        }
        if (o == null) return none;
        if (what == 2) return o.plain() ? 1 : 2;
        if (what == 5) return o.ticket > 0 ? o.ticket : none;
        if (what == 6) return o.plain() ? none : o.stubOf.number;
        if (!o.plain()) return none;
        if (what == 3) return o.cls.name;
        if (what == 4) return o.cls.by.number;
        return !o.cls.ref(what) ? o.numbers[what] : o.refs[what] == null ? 0 : 1;
    }
    long digest(int p, int v) {
        if (!pv(p, v)) return 1L << 40;
        Map<Obj, Integer> order = new LinkedHashMap<>();
        meet(held(p, v), true, order);
        long h = 1;
        for (Obj o : order.keySet()) {
            if (!o.plain()) {
                h = h * 31 + (100 + o.stubOf.number);
                h = h * 31 + o.ticket;
                continue;
            }
            h = h * 31 + o.cls.name;
            for (int k = 0; k < 2; k++) h = h * 31 + (!o.cls.ref(k) ? o.numbers[k] : o.refs[k] == null ? -1 : order.get(o.refs[k]));
        }
        return h;
    }
    int known(int p, int loader, int name, int what) {
        if (!in(p, 0, 2) || !in(loader, 0, 4) || !in(what, 0, 5)) return -1;
        Cls c = places[p].loaders[loader].knows.get(name);
        if (c == null) return -1;
        int[] answers = { c.by.number, c.status, c.def.shape(), c.def.flags(), c.def.signer(), c.parent == null ? -1 : c.parent.name };
        return answers[what];
    }
    int lease(int q, int ticket, int p) {
        if (!in(q, 0, 2) || !in(p, 0, 2)) return -1;
        Obj o = places[q].withTicket(ticket);
        return o == null ? -1 : o.leases.getOrDefault(places[p], -1);
    }
    int state(int p, int what) {
        if (!in(p, 0, 2)) return -1;
        Place x = places[p];
        if (what == 0) return x.objects.size();
        if (what == 1) {
            int n = 0;
            for (Loader l : x.loaders) n += l.defined.size();
            return n;
        }
        if (what == 2) return x.tickets;
        if (what == 3) {
            int n = 0;
            for (Obj o : x.objects) if (o.exported()) n++;
            return n;
        }
        return -1;
    }
    int fault(int what) {
        if (part == -1 || !in(what, 0, 1)) return -1;
        return what == 0 ? part : faultName;
    }
}
