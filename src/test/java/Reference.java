import java.util.ArrayDeque;
import java.util.ArrayList;
import java.util.Arrays;
import java.util.HashMap;
import java.util.HashSet;
import java.util.LinkedHashSet;
import java.util.List;
import java.util.Map;
import java.util.Set;
import java.util.TreeSet;

/**
 * A second writing of the document, with the Java library's collections and with other ways to
 * reckon than the program's, for FuzzTest to compare with. It does not care for speed or room.
 */
final class Reference {
    static final class Line {
        int kind, d, p, q;
    }

    static final class Block {
        List<Line> lines = new ArrayList<>();
        int endKind, p, to, other;
    }

    /** An ARGUMENT: a VALUE, or a number where that is null. */
    record Arg(Val val, int number) {
        boolean same(Arg o) {
            return val == o.val && number == o.number;
        }
    }

    static final class Val {
        int id, kind, variable = -1, gonePlace;
        Place place;
        List<Arg> args = new ArrayList<>();
    }

    static final class Edge {
        Place from;
        boolean first;

        Edge(Place from, boolean first) {
            this.from = from;
            this.first = first;
        }
    }

    static final class Place {
        int number;
        List<Val> vals = new ArrayList<>();
        List<Edge> edges = new ArrayList<>();
        int endKind;
        Arg endArg;
        Place to, other;

        List<Place> nexts() {
            List<Place> l = new ArrayList<>();
            if (endKind >= 1) l.add(to);
            if (endKind == 2) l.add(other);
            return l;
        }
    }

    static final class Form {
        int blocks;
        Map<Integer, Place> there = new HashMap<>();
        List<Val> made = new ArrayList<>();
        int passes, gone;
    }

    static final class Outcome {
        int ended, returned, cost, ends;
        List<Integer> prints = new ArrayList<>();
        int[] cells = new int[8];
    }

    static final class Trap extends RuntimeException {
        private static final long serialVersionUID = 1;
    }

    final List<Block> blocks = new ArrayList<>(List.of(new Block()));
    Form form;
    Outcome latest = new Outcome();
    int runs;
    long costs;

    // ---- blocks

    int block() {
        if (blocks.size() == 10) throw new IllegalStateException();
        blocks.add(new Block());
        return blocks.size() - 1;
    }

    private Block told(int b) {
        if (b < 0 || b >= blocks.size()) throw new IndexOutOfBoundsException();
        return blocks.get(b);
    }

    private static void must(boolean x) {
        if (!x) throw new IllegalArgumentException();
    }

    private static boolean operand(int p) {
        return p >= -99 && p <= 105;
    }

    int line(int block, int kind, int d, int p, int q) {
        Block b = told(block);
        must(kind >= 0 && kind <= 8);
        boolean namesD = kind != 7 && kind != 8;
        boolean namesQ = kind != 0 && kind != 6 && kind != 8;
        must(namesD ? d >= 0 && d <= 5 : d == 0);
        must(operand(p));
        must(namesQ ? operand(q) : q == 0);
        if (b.lines.size() == 8) throw new IllegalStateException();
        Line l = new Line();
        l.kind = kind;
        l.d = d;
        l.p = p;
        l.q = q;
        b.lines.add(l);
        return b.lines.size() - 1;
    }

    int cut(int block) {
        Block b = told(block);
        if (b.lines.isEmpty()) throw new IllegalStateException();
        b.lines.remove(b.lines.size() - 1);
        return b.lines.size();
    }

    int end(int block, int kind, int p, int to, int other) {
        Block b = told(block);
        must(kind >= 0 && kind <= 2);
        must(kind == 1 ? p == 0 : operand(p));
        must(kind == 0 ? to == 0 : to >= 1 && to < blocks.size());
        must(kind != 2 ? other == 0 : other >= 1 && other < blocks.size());
        int before = b.endKind;
        b.endKind = kind;
        b.p = p;
        b.to = to;
        b.other = other;
        return before;
    }

    private List<Integer> nexts(int b) {
        Block x = blocks.get(b);
        return x.endKind == 0 ? List.of() : x.endKind == 1 ? List.of(x.to) : List.of(x.to, x.other);
    }

    private Set<Integer> reached() {
        Set<Integer> seen = new TreeSet<>();
        ArrayDeque<Integer> open = new ArrayDeque<>(List.of(0));
        while (!open.isEmpty()) {
            int b = open.pop();
            if (seen.add(b)) open.addAll(nexts(b));
        }
        return seen;
    }

    /** By each BLOCK, who DOMINATES it: by the meeting of those of the BLOCKS that go to it. */
    private static Map<Integer, Set<Integer>> dominators(Set<Integer> nodes, Map<Integer, Set<Integer>> preds) {
        Map<Integer, Set<Integer>> dom = new HashMap<>();
        for (int b : nodes) dom.put(b, b == 0 ? new TreeSet<>(Set.of(0)) : new TreeSet<>(nodes));
        boolean moved = true;
        while (moved) {
            moved = false;
            for (int b : nodes) {
                if (b == 0) continue;
                Set<Integer> met = new TreeSet<>(nodes);
                for (int p : preds.get(b)) met.retainAll(dom.get(p));
                met.add(b);
                if (!met.equals(dom.get(b))) {
                    dom.put(b, met);
                    moved = true;
                }
            }
        }
        return dom;
    }

    private Map<Integer, Set<Integer>> preds() {
        Map<Integer, Set<Integer>> preds = new HashMap<>();
        for (int b : reached()) preds.put(b, new TreeSet<>());
        for (int b : reached()) for (int n : nexts(b)) preds.get(n).add(b);
        return preds;
    }

    private Set<Integer> frontier(int a) {
        Map<Integer, Set<Integer>> preds = preds();
        Map<Integer, Set<Integer>> dom = dominators(reached(), preds);
        Set<Integer> f = new TreeSet<>();
        for (int b : reached()) {
            boolean some = false;
            for (int p : preds.get(b)) some |= dom.get(p).contains(a);
            if (some && (b == a || !dom.get(b).contains(a))) f.add(b);
        }
        return f;
    }

    private static boolean uses(int operand, int v) {
        return operand == 100 + v;
    }

    private boolean wanted(int block, int v, Set<Integer> been) {
        if (!been.add(block)) return false;
        Block b = blocks.get(block);
        for (Line l : b.lines) {
            if (uses(l.p, v) || uses(l.q, v)) return true;
            if (l.kind <= 6 && l.d == v) return false;
        }
        if (uses(b.p, v)) return true;
        for (int n : nexts(block)) if (wanted(n, v, been)) return true;
        return false;
    }

    private static int set(Iterable<Integer> s) {
        int r = 0;
        for (int k : s) r += 1 << k;
        return r;
    }

    int ofBlock(int block, int what) {
        Block b = told(block);
        must(what >= 0 && what <= 5);
        Set<Integer> reached = reached();
        if (what == 0) return b.lines.size();
        if (what == 1) return b.endKind;
        if (!reached.contains(block)) return 0;
        if (what == 2) return 1;
        if (what == 3) {
            Map<Integer, Set<Integer>> dom = dominators(reached, preds());
            int r = 0;
            for (int x : reached) if (dom.get(x).contains(block)) r += 1 << x;
            return r;
        }
        if (what == 4) return set(frontier(block));
        int r = 0;
        for (int v = 0; v < 6; v++) if (wanted(block, v, new HashSet<>())) r += 1 << v;
        return r;
    }

    // ---- the form

    private Val make(int kind, Place place, int variable) {
        Val v = new Val();
        v.id = form.made.size();
        v.kind = kind;
        v.place = place;
        v.variable = variable;
        form.made.add(v);
        if (place != null) place.vals.add(v);
        return v;
    }

    private Set<Integer> phiPlaces(int v) {
        ArrayDeque<Integer> open = new ArrayDeque<>();
        open.add(0);
        for (int b : reached()) for (Line l : blocks.get(b).lines) if (l.kind <= 6 && l.d == v) open.add(b);
        Set<Integer> would = new TreeSet<>();
        while (!open.isEmpty()) for (int f : frontier(open.pop())) if (would.add(f)) open.add(f);
        would.removeIf(b -> !wanted(b, v, new HashSet<>()));
        return would;
    }

    private final Map<Val, Line> lineOf = new HashMap<>();
    private final Map<Line, Val> valOf = new HashMap<>();

    int form() {
        form = new Form();
        form.blocks = blocks.size();
        lineOf.clear();
        valOf.clear();
        for (int v = 0; v < 6; v++) make(10, null, -1);
        List<Set<Integer>> phis = new ArrayList<>();
        for (int v = 0; v < 6; v++) phis.add(phiPlaces(v));
        for (int b : reached()) {
            Place p = new Place();
            p.number = b;
            form.there.put(b, p);
            for (int v = 0; v < 6; v++) if (phis.get(v).contains(b)) make(9, p, v);
            for (Line l : blocks.get(b).lines) {
                if (l.kind != 0) {
                    Val x = make(l.kind, p, -1);
                    lineOf.put(x, l);
                    valOf.put(l, x);
                }
            }
        }
        for (int b : reached()) {
            Place p = form.there.get(b);
            Block t = blocks.get(b);
            p.endKind = t.endKind;
            if (t.endKind >= 1) {
                p.to = form.there.get(t.to);
                p.to.edges.add(new Edge(p, true));
            }
            if (t.endKind == 2) {
                p.other = form.there.get(t.other);
                p.other.edges.add(new Edge(p, false));
            }
        }
        for (int b : reached()) {
            Place p = form.there.get(b);
            List<Line> lines = blocks.get(b).lines;
            for (Val x : p.vals) {
                if (x.kind == 9) {
                    for (Edge e : p.edges) x.args.add(holds(e.from.number, blocks.get(e.from.number).lines.size(), x.variable));
                } else {
                    Line l = lineOf.get(x);
                    int at = lines.indexOf(l);
                    x.args.add(arg(b, at, l.p));
                    if (l.kind <= 5 || l.kind == 7) x.args.add(arg(b, at, l.q));
                }
            }
            if (p.endKind != 1) p.endArg = arg(b, lines.size(), blocks.get(b).p);
        }
        return form.made.size();
    }

    private Arg arg(int block, int at, int operand) {
        return operand >= 100 ? holds(block, at, operand - 100) : new Arg(null, operand);
    }

    /** What a VARIABLE holds ahead of a LINE: found backwards, over each way by which one comes there. */
    private Arg holds(int block, int at, int v) {
        List<Arg> found = new ArrayList<>();
        seek(block, at, v, new HashSet<>(), found);
        for (Arg a : found) {
            if (!a.same(found.get(0))) throw new AssertionError("a PHI is missing");
        }
        return found.get(0);
    }

    private void seek(int block, int at, int v, Set<Integer> been, List<Arg> found) {
        List<Line> lines = blocks.get(block).lines;
        for (int k = at - 1; k >= 0; k--) {
            Line l = lines.get(k);
            if (l.kind <= 6 && l.d == v) {
                found.add(l.kind == 0 ? arg(block, k, l.p) : new Arg(valOf.get(l), 0));
                return;
            }
        }
        if (block == 0) {
            found.add(new Arg(form.made.get(v), 0));
            return;
        }
        for (Val x : form.there.get(block).vals) {
            if (x.kind == 9 && x.variable == v) {
                found.add(new Arg(x, 0));
                return;
            }
        }
        if (been.add(block)) {
            for (int p : preds().get(block)) seek(p, blocks.get(p).lines.size(), v, been, found);
        }
    }

    // ---- passes

    private static List<Place> places(Form f) {
        List<Place> l = new ArrayList<>();
        for (int b = 0; b < f.blocks; b++) if (f.there.containsKey(b)) l.add(f.there.get(b));
        return l;
    }

    private static void put(Form f, Val old, Arg by) {
        for (Val v : f.made) v.args.replaceAll(a -> a.val == old ? by : a);
        for (Place p : places(f)) if (p.endArg != null && p.endArg.val == old) p.endArg = by;
    }

    private static void lose(Form f, Val v) {
        v.place.vals.remove(v);
        v.place = null;
        v.args.clear();
        f.gone++;
    }

    private static void replace(Form f, Val old, Arg by) {
        put(f, old, by);
        lose(f, old);
    }

    private static int passOver(Form f, int pass) {
        int before = f.gone;
        if (pass == 1) new Sccp(f).go();
        if (pass == 2) numbers(f);
        if (pass == 3) dead(f);
        if (pass == 4) join(f);
        f.passes++;
        return f.gone - before;
    }

    static int arith(int kind, int p, int q) {
        return switch (kind) {
            case 1 -> p + q;
            case 2 -> p - q;
            case 3 -> p * q;
            case 4 -> p / q;
            case 5 -> p < q ? 1 : 0;
            default -> throw new AssertionError();
        };
    }

    /** Known: null is UNKNOWN, MANY is itself, else a number. With a list of what is to be looked at again. */
    private static final class Sccp {
        static final Object MANY = new Object();
        final Form f;
        final Map<Val, Object> known = new HashMap<>();
        final Set<Place> come = new LinkedHashSet<>();
        final Set<Edge> along = new HashSet<>();

        Sccp(Form f) {
            this.f = f;
        }

        Object of(Arg a) {
            return a.val == null ? Integer.valueOf(a.number) : known.get(a.val);
        }

        void go() {
            for (int v = 0; v < 6; v++) known.put(f.made.get(v), v < 2 ? MANY : (Object) 0);
            come.add(f.there.get(0));
            boolean moved = true;
            while (moved) {
                moved = false;
                List<Place> now = new ArrayList<>(come);
                java.util.Collections.reverse(now);
                for (Place p : now) {
                    for (Val v : p.vals) {
                        Object k = think(p, v);
                        Object was = known.get(v);
                        if (k == null || k.equals(was)) continue;
                        if (was != null && k != MANY) throw new AssertionError("fell");
                        known.put(v, k);
                        moved = true;
                    }
                    for (Edge e : ways(p)) {
                        if (along.add(e)) {
                            come.add(e.first ? p.to : p.other);
                            moved = true;
                        }
                    }
                }
            }
            change();
        }

        Object think(Place p, Val v) {
            if (v.kind == 6) return MANY;
            if (v.kind == 9) {
                Set<Object> all = new HashSet<>();
                for (int k = 0; k < p.edges.size(); k++) {
                    if (along.contains(p.edges.get(k))) all.add(of(v.args.get(k)));
                }
                all.remove(null);
                return all.isEmpty() ? null : all.size() == 1 ? all.iterator().next() : MANY;
            }
            if (v.kind > 5) return null;
            Object a = of(v.args.get(0));
            Object b = of(v.args.get(1));
            if (a == null || b == null) return null;
            if (a == MANY || b == MANY) return MANY;
            if (v.kind == 4 && (Integer) b == 0) return MANY;
            return arith(v.kind, (Integer) a, (Integer) b);
        }

        Edge edge(Place p, boolean first) {
            for (Edge e : (first ? p.to : p.other).edges) if (e.from == p && e.first == first) return e;
            throw new AssertionError();
        }

        List<Edge> ways(Place p) {
            List<Edge> l = new ArrayList<>();
            if (p.endKind == 1) l.add(edge(p, true));
            if (p.endKind == 2) {
                Object k = of(p.endArg);
                if (k == MANY || k != null && (Integer) k > 0) l.add(edge(p, true));
                if (k == MANY || k != null && (Integer) k <= 0) l.add(edge(p, false));
            }
            return l;
        }

        void change() {
            for (Place p : come) {
                if (p.endKind == 2 && of(p.endArg) instanceof Integer n) {
                    p.endKind = 1;
                    p.to = n > 0 ? p.to : p.other;
                    p.other = null;
                    p.endArg = null;
                }
            }
            for (Place p : places(f)) {
                if (come.contains(p)) {
                    for (int k = p.edges.size() - 1; k >= 0; k--) {
                        if (!along.contains(p.edges.get(k))) {
                            p.edges.remove(k);
                            for (Val v : p.vals) if (v.kind == 9) v.args.remove(k);
                        }
                    }
                } else {
                    for (Val v : new ArrayList<>(p.vals)) lose(f, v);
                    f.there.remove(p.number);
                    f.gone++;
                }
            }
            for (Place p : come) for (Edge e : p.edges) if (e.from.endKind == 1) e.first = true;
            for (Val v : f.made) {
                if (v.place != null && known.get(v) instanceof Integer n) replace(f, v, new Arg(null, n));
            }
            for (int v = 2; v < 6; v++) put(f, f.made.get(v), new Arg(null, 0));
        }
    }

    private static void numbers(Form f) {
        Set<Integer> nodes = new TreeSet<>(f.there.keySet());
        Map<Integer, Set<Integer>> preds = new HashMap<>();
        for (int b : nodes) {
            preds.put(b, new TreeSet<>());
            for (Edge e : f.there.get(b).edges) preds.get(b).add(e.from.number);
        }
        Map<Integer, Set<Integer>> dom = dominators(nodes, preds);
        List<Integer> order = new ArrayList<>();
        while (order.size() < nodes.size()) {
            for (int b : nodes) {
                Set<Integer> need = new TreeSet<>(dom.get(b));
                need.remove(b);
                if (!order.contains(b) && order.containsAll(need)) {
                    order.add(b);
                    break;
                }
            }
        }
        List<Val> ahead = new ArrayList<>();
        for (int b : order) {
            Place p = f.there.get(b);
            for (Val v : new ArrayList<>(p.vals)) {
                Arg by = null;
                if (v.kind == 9) by = ofPhi(p, v);
                if (v.kind >= 1 && v.kind <= 5) {
                    for (Val w : ahead) {
                        if (by == null && w.place != null && w.kind == v.kind && dom.get(b).contains(w.place.number) && sameArgs(v, w)) {
                            by = new Arg(w, 0);
                        }
                    }
                }
                if (by != null) replace(f, v, by);
                ahead.add(v);
            }
        }
    }

    private static Arg ofPhi(Place p, Val v) {
        List<Arg> rest = new ArrayList<>(v.args);
        rest.removeIf(a -> a.val == v);
        boolean one = !rest.isEmpty();
        for (Arg a : rest) one = one && a.same(rest.get(0));
        if (one) return rest.get(0);
        for (Val w : p.vals) {
            if (w == v) return null;
            if (w.kind == 9 && sameArgs(v, w)) return new Arg(w, 0);
        }
        return null;
    }

    private static boolean sameArgs(Val v, Val w) {
        boolean straight = true;
        for (int k = 0; k < v.args.size(); k++) straight = straight && v.args.get(k).same(w.args.get(k));
        boolean crossed = (v.kind == 1 || v.kind == 3) && v.args.get(0).same(w.args.get(1)) && v.args.get(1).same(w.args.get(0));
        return straight || crossed;
    }

    private static void dead(Form f) {
        ArrayDeque<Val> open = new ArrayDeque<>();
        for (Val v : f.made) {
            if (v.place == null) continue;
            boolean div = v.kind == 4 && (v.args.get(1).val != null || v.args.get(1).number == 0);
            if (v.kind == 7 || v.kind == 8 || div) open.add(v);
        }
        for (Place p : places(f)) if (p.endArg != null && p.endArg.val != null) open.add(p.endArg.val);
        Set<Val> needed = new HashSet<>();
        while (!open.isEmpty()) {
            Val v = open.pop();
            if (needed.add(v)) for (Arg a : v.args) if (a.val != null) open.add(a.val);
        }
        for (Val v : f.made) if (v.place != null && !needed.contains(v)) lose(f, v);
    }

    private static void join(Form f) {
        boolean again = true;
        while (again) {
            again = false;
            for (Place a : places(f)) {
                if (a.endKind != 1 || a.to == a || a.to.edges.size() != 1) continue;
                Place b = a.to;
                for (Val v : new ArrayList<>(b.vals)) {
                    if (v.kind == 9) replace(f, v, v.args.get(0));
                }
                for (Val v : b.vals) v.place = a;
                a.vals.addAll(b.vals);
                a.endKind = b.endKind;
                a.endArg = b.endArg;
                a.to = b.to;
                a.other = b.other;
                f.there.remove(b.number);
                f.gone++;
                for (Place p : places(f)) for (Edge e : p.edges) if (e.from == b) e.from = a;
                again = true;
                break;
            }
        }
    }

    private void mustForm() {
        if (form == null) throw new IllegalStateException();
    }

    int pass(int pass) {
        must(pass >= 1 && pass <= 4);
        mustForm();
        return passOver(form, pass);
    }

    private Place thereOrThrow(int block) {
        if (form == null || !form.there.containsKey(block)) throw new IndexOutOfBoundsException();
        return form.there.get(block);
    }

    int ofPlace(int block, int what) {
        if (form == null || block < 0 || block >= form.blocks) throw new IndexOutOfBoundsException();
        must(what >= 0 && what <= 7);
        Place p = form.there.get(block);
        if (p == null) return 0;
        return switch (what) {
            case 0 -> 1;
            case 1 -> p.vals.size();
            case 2 -> p.endKind;
            case 3 -> p.endKind == 0 ? -1 : p.to.number;
            case 4 -> p.endKind == 2 ? p.other.number : -1;
            case 5 -> p.edges.size();
            case 6 -> p.endArg == null || p.endArg.val == null ? -1 : p.endArg.val.id;
            default -> p.endArg == null || p.endArg.val != null ? 0 : p.endArg.number;
        };
    }

    int valueAt(int block, int k) {
        Place p = thereOrThrow(block);
        if (k < 0 || k >= p.vals.size()) throw new IndexOutOfBoundsException();
        return p.vals.get(k).id;
    }

    int edge(int block, int k) {
        Place p = thereOrThrow(block);
        if (k < 0 || k >= p.edges.size()) throw new IndexOutOfBoundsException();
        return p.edges.get(k).from.number;
    }

    private Val val(int value) {
        if (form == null || value < 0 || value >= form.made.size()) throw new IndexOutOfBoundsException();
        return form.made.get(value);
    }

    int ofValue(int value, int what) {
        Val v = val(value);
        must(what >= 0 && what <= 4);
        if (what == 0) return v.kind;
        if (what == 1) return v.place == null ? -1 : v.place.number;
        if (what == 2) return v.variable;
        if (what == 3) return v.args.size();
        int uses = 0;
        for (Val w : form.made) for (Arg a : w.args) if (a.val == v) uses++;
        for (Place p : places(form)) if (p.endArg != null && p.endArg.val == v) uses++;
        return uses;
    }

    private Arg argOf(int value, int k) {
        Val v = val(value);
        if (k < 0 || k >= v.args.size()) throw new IndexOutOfBoundsException();
        return v.args.get(k);
    }

    int argument(int value, int k) {
        Arg a = argOf(value, k);
        return a.val == null ? -1 : a.val.id;
    }

    int number(int value, int k) {
        Arg a = argOf(value, k);
        return a.val == null ? a.number : 0;
    }

    // ---- runs

    private static final int[] COST = {0, 1, 1, 3, 8, 1, 4, 4, 1};

    private static int act(Outcome o, int kind, int p, int q) {
        o.cost += COST[kind];
        int cell = (p % 8 + 8) % 8;
        switch (kind) {
            case 0: return p;
            case 6: return o.cells[cell];
            case 7: o.cells[cell] = q; return 0;
            case 8: o.prints.add(p); return 0;
            case 4: if (q == 0) throw new Trap(); return p / q;
            default: return arith(kind, p, q);
        }
    }

    private Outcome runBlocks(int a, int b) {
        Outcome o = new Outcome();
        int[] vars = {a, b, 0, 0, 0, 0};
        int at = 0;
        try {
            while (true) {
                Block x = blocks.get(at);
                for (Line l : x.lines) {
                    int made = act(o, l.kind, l.p >= 100 ? vars[l.p - 100] : l.p, l.q >= 100 ? vars[l.q - 100] : l.q);
                    if (l.kind <= 6) vars[l.d] = made;
                }
                if (o.ends == 300) {
                    o.ended = 2;
                    return o;
                }
                o.ends++;
                int p = x.p >= 100 ? vars[x.p - 100] : x.p;
                if (x.endKind == 0) {
                    o.returned = p;
                    return o;
                }
                o.cost += x.endKind;
                at = x.endKind == 1 || p > 0 ? x.to : x.other;
            }
        } catch (Trap t) {
            o.ended = 1;
            return o;
        }
    }

    private static int worth(Map<Val, Integer> held, Arg a) {
        return a.val == null ? a.number : held.get(a.val);
    }

    private static Outcome runOver(Form f, int a, int b) {
        Outcome o = new Outcome();
        Map<Val, Integer> held = new HashMap<>();
        for (int v = 0; v < 6; v++) held.put(f.made.get(v), v == 0 ? a : v == 1 ? b : 0);
        Place at = f.there.get(0);
        int came = -1;
        try {
            while (true) {
                Map<Val, Integer> phis = new HashMap<>();
                for (Val v : at.vals) if (v.kind == 9) phis.put(v, worth(held, v.args.get(came)));
                held.putAll(phis);
                for (Val v : at.vals) {
                    if (v.kind == 9) continue;
                    held.put(v, act(o, v.kind, worth(held, v.args.get(0)), v.args.size() > 1 ? worth(held, v.args.get(1)) : 0));
                }
                if (o.ends == 300) {
                    o.ended = 2;
                    return o;
                }
                o.ends++;
                int p = at.endArg == null ? 0 : worth(held, at.endArg);
                if (at.endKind == 0) {
                    o.returned = p;
                    return o;
                }
                o.cost += at.endKind;
                boolean first = at.endKind == 1 || p > 0;
                Place next = first ? at.to : at.other;
                for (int k = 0; k < next.edges.size(); k++) {
                    if (next.edges.get(k).from == at && next.edges.get(k).first == first) came = k;
                }
                at = next;
            }
        } catch (Trap t) {
            o.ended = 1;
            return o;
        }
    }

    private int count(Outcome o) {
        latest = o;
        runs++;
        costs += o.cost;
        return o.ended;
    }

    int run(int a, int b) {
        return count(runBlocks(a, b));
    }

    int runForm(int a, int b) {
        mustForm();
        return count(runOver(form, a, b));
    }

    int ofRun(int what) {
        must(what >= 0 && what <= 5);
        return new int[] {latest.ended, latest.returned, latest.prints.size(), latest.cost, latest.ends, runs}[what];
    }

    int printed(int k) {
        if (k < 0 || k >= 60 || k >= latest.prints.size()) throw new IndexOutOfBoundsException();
        return latest.prints.get(k);
    }

    int cell(int cell) {
        if (cell < 0 || cell > 7) throw new IndexOutOfBoundsException();
        return latest.cells[cell];
    }

    int many(int what) {
        must(what >= 0 && what <= 10);
        if (what == 0) return blocks.size();
        if (what == 1) return reached().size();
        if (what == 2) return blocks.stream().mapToInt(b -> b.lines.size()).sum();
        if (form == null) return 0;
        return switch (what) {
            case 3 -> 1;
            case 4 -> form.made.size();
            case 5 -> places(form).stream().mapToInt(p -> p.vals.size()).sum();
            case 6 -> (int) form.made.stream().filter(v -> v.kind == 9 && v.place != null).count();
            case 7 -> form.there.size();
            case 8 -> places(form).stream().mapToInt(p -> p.edges.size()).sum();
            case 9 -> form.passes;
            default -> form.gone;
        };
    }

    double meanCost() {
        return runs == 0 ? 0 : (double) costs / runs;
    }

    // ---- what would be

    private Form copy() {
        Form f = new Form();
        f.blocks = form.blocks;
        Map<Val, Val> vals = new HashMap<>();
        Map<Place, Place> copies = new HashMap<>();
        for (Place p : places(form)) {
            Place c = new Place();
            c.number = p.number;
            c.endKind = p.endKind;
            copies.put(p, c);
            f.there.put(p.number, c);
        }
        for (Val v : form.made) {
            Val c = new Val();
            c.id = v.id;
            c.kind = v.kind;
            c.variable = v.variable;
            c.place = v.place == null ? null : copies.get(v.place);
            vals.put(v, c);
            f.made.add(c);
        }
        for (Val v : form.made) for (Arg a : v.args) vals.get(v).args.add(copied(vals, a));
        for (Place p : places(form)) {
            Place c = copies.get(p);
            for (Val v : p.vals) c.vals.add(vals.get(v));
            for (Edge e : p.edges) c.edges.add(new Edge(copies.get(e.from), e.first));
            c.endArg = p.endArg == null ? null : copied(vals, p.endArg);
            c.to = p.to == null ? null : copies.get(p.to);
            c.other = p.other == null ? null : copies.get(p.other);
        }
        return f;
    }

    private static Arg copied(Map<Val, Val> vals, Arg a) {
        return a.val == null ? a : new Arg(vals.get(a.val), 0);
    }

    int wouldGo(int pass) {
        must(pass >= 1 && pass <= 4);
        mustForm();
        return passOver(copy(), pass);
    }

    int wouldCost(int passes, int a, int b) {
        must(passes >= 0 && passes <= 5);
        mustForm();
        Form f = copy();
        for (int r = 0; r < passes; r++) for (int p = 1; p <= 4; p++) passOver(f, p);
        return runOver(f, a, b).cost;
    }

    int untilStill() {
        mustForm();
        Form f = copy();
        List<Integer> told = new ArrayList<>();
        while (told.size() < 40) {
            told.add(passOver(f, told.size() % 4 + 1));
            int n = told.size();
            if (n >= 4 && told.subList(n - 4, n).equals(List.of(0, 0, 0, 0))) break;
        }
        return told.size();
    }

    boolean isAlike(int a, int b) {
        mustForm();
        Outcome x = runBlocks(a, b);
        Outcome y = runOver(form, a, b);
        return x.ended == y.ended && x.returned == y.returned && x.prints.equals(y.prints) && Arrays.equals(x.cells, y.cells);
    }

    long digest() {
        List<Integer> all = new ArrayList<>();
        for (int w = 0; w <= 10; w++) all.add(many(w));
        for (int b = 0; b < blocks.size(); b++) for (int w = 0; w <= 5; w++) all.add(ofBlock(b, w));
        for (int w = 0; w <= 5; w++) all.add(ofRun(w));
        for (int k = 0; k < Math.min(60, latest.prints.size()); k++) all.add(printed(k));
        for (int c = 0; c < 8; c++) all.add(cell(c));
        if (form != null) {
            for (int b = 0; b < form.blocks; b++) {
                for (int w = 0; w <= 7; w++) all.add(ofPlace(b, w));
                if (!form.there.containsKey(b)) continue;
                for (int k = 0; k < form.there.get(b).edges.size(); k++) all.add(edge(b, k));
                for (int k = 0; k < form.there.get(b).vals.size(); k++) all.add(valueAt(b, k));
            }
            for (int v = 0; v < form.made.size(); v++) {
                for (int w = 0; w <= 4; w++) all.add(ofValue(v, w));
                for (int k = 0; k < form.made.get(v).args.size(); k++) {
                    all.add(argument(v, k));
                    all.add(number(v, k));
                }
            }
            for (int p = 1; p <= 4; p++) all.add(wouldGo(p));
            all.add(wouldCost(0, 3, -2));
            all.add(wouldCost(2, 3, -2));
        }
        long d = 7605;
        for (int v : all) d = d * 31 + v;
        return d;
    }
}
