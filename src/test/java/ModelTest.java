import java.util.ArrayList;
import java.util.Arrays;
import java.util.HashMap;
import java.util.HashSet;
import java.util.List;
import java.util.Map;
import java.util.Set;

/**
 * Runs of calls, from fixed seeds, on HoleFiller and on a plain model that follows the document word
 * by word with named variables, whole trees and a list of equations.
 */
public final class ModelTest {
    static final int IAE = -1001;
    static final int ISE = -1002;
    static final int IOOBE = -1003;

    static final class Term {
        int sort;
        int number;
        Term[] args = new Term[0];
        int[][] binders = new int[0][];
        int[] vars = new int[0];
    }

    static Term variable(int name) {
        Term t = new Term();
        t.number = name;
        return t;
    }

    static Term hole(int h, int[] vars) {
        Term t = new Term();
        t.sort = 2;
        t.number = h;
        t.vars = vars;
        return t;
    }

    record Filling(int[] params, Term body) { }

    static final class Fault extends RuntimeException {
        final int number;
        Fault(int number) { super(null, null, false, false); this.number = number; }
    }

    static final class ModelSlot {
        int depth = -1;
        List<int[]> items = new ArrayList<>();
    }

    /** A place where an item is due: the names there, the last bound one first, and for hole variables those taken. */
    record Due(List<Integer> scope, Set<Integer> taken) { }

    static final class Model {
        final List<int[]> operations = new ArrayList<>();
        final List<Integer> told = new ArrayList<>();
        final ModelSlot[] slots = new ModelSlot[8];
        Map<Integer, Integer> newHoles = new HashMap<>();
        Map<Integer, Filling> fillings = new HashMap<>();
        List<Integer> lastRead = new ArrayList<>();
        int lastOpen;
        int good;
        int bad;
        int nextName = 100;

        Model() {
            for (int i = 0; i < 8; i++) slots[i] = new ModelSlot();
        }

        int operation(int a, int b, int c) {
            int[] all = {a, b, c};
            for (int v : all) if (v < -1 || v > 2) return IAE;
            int n = 0;
            while (n < 3 && all[n] >= 0) n++;
            for (int i = n; i < 3; i++) if (all[i] != -1) return IAE;
            if (operations.size() == 16) return -1;
            operations.add(Arrays.copyOf(all, n));
            return operations.size() - 1;
        }

        int tellHole(int n) {
            if (n < 0 || n > 4) return IAE;
            if (told.size() == 24) return -1;
            told.add(n);
            return told.size() - 1;
        }

        int begin(int slot, int depth) {
            if (slot < 0 || slot > 7 || depth < 0 || depth > 6) return IAE;
            slots[slot] = new ModelSlot();
            slots[slot].depth = depth;
            return 1;
        }

        List<Due> dues(ModelSlot slot) {
            List<Due> due = new ArrayList<>();
            if (slot.depth < 0) return due;
            List<Integer> root = new ArrayList<>();
            for (int i = 0; i < slot.depth; i++) root.add(i);
            due.add(new Due(root, null));
            for (int[] it : slot.items) {
                Due d = due.remove(0);
                if (it[0] == 0) {
                    if (d.taken != null) d.taken.add(it[1]);
                } else if (it[0] == 1) {
                    int at = 0;
                    for (int binds : operations.get(it[1])) {
                        List<Integer> scope = new ArrayList<>(d.scope);
                        for (int i = 0; i < binds; i++) scope.add(0, nextName++);
                        due.add(at++, new Due(scope, null));
                    }
                } else {
                    Set<Integer> taken = new HashSet<>();
                    for (int i = 0; i < told.get(it[1]); i++) due.add(0, new Due(d.scope, taken));
                }
            }
            return due;
        }

        int put(int s, int sort, int x) {
            if (s < 0 || s > 7) return IAE;
            ModelSlot slot = slots[s];
            List<Due> due = dues(slot);
            if (due.isEmpty()) return ISE;
            Due d = due.get(0);
            if (sort < 0 || sort > 2 || x < 0) return IAE;
            if (d.taken != null && (sort != 0 || d.taken.contains(x))) return IAE;
            if (sort == 0 && x >= d.scope.size()) return IAE;
            if (sort == 1 && x >= operations.size()) return IAE;
            if (sort == 2 && x >= told.size()) return IAE;
            if (d.taken == null) {
                int size = 1;
                for (int i = 0; i < slot.items.size(); i++) {
                    int[] it = slot.items.get(i);
                    size++;
                    if (it[0] == 2) i += told.get(it[1]);
                }
                if (size > 30) return -1;
                if (sort == 1) for (int b : operations.get(x)) if (d.scope.size() + b > 12) return -1;
            }
            slot.items.add(new int[] {sort, x});
            return dues(slot).size();
        }

        boolean whole(int s) {
            return slots[s].depth >= 0 && dues(slots[s]).isEmpty();
        }

        int position;

        Term tree(int s) {
            position = 0;
            List<Integer> root = new ArrayList<>();
            for (int i = 0; i < slots[s].depth; i++) root.add(i);
            return parse(slots[s].items, root);
        }

        Term parse(List<int[]> items, List<Integer> scope) {
            int[] it = items.get(position++);
            if (it[0] == 0) return variable(scope.get(it[1]));
            if (it[0] == 2) {
                int[] vars = new int[told.get(it[1])];
                for (int i = 0; i < vars.length; i++) vars[i] = scope.get(items.get(position++)[1]);
                return hole(it[1], vars);
            }
            Term t = new Term();
            t.sort = 1;
            t.number = it[1];
            int[] binds = operations.get(it[1]);
            t.args = new Term[binds.length];
            t.binders = new int[binds.length][];
            for (int i = 0; i < binds.length; i++) {
                List<Integer> inner = new ArrayList<>(scope);
                t.binders[i] = new int[binds[i]];
                for (int k = 0; k < binds[i]; k++) {
                    t.binders[i][k] = nextName++;
                    inner.add(0, t.binders[i][k]);
                }
                t.args[i] = parse(items, inner);
            }
            return t;
        }

        /** The term with names changed, all binders with names of their own. */
        Term rename(Term t, Map<Integer, Integer> names) {
            if (t.sort == 0) return variable(names.getOrDefault(t.number, t.number));
            if (t.sort == 2) {
                int[] vars = t.vars.clone();
                for (int i = 0; i < vars.length; i++) vars[i] = names.getOrDefault(vars[i], vars[i]);
                return hole(t.number, vars);
            }
            Term r = new Term();
            r.sort = 1;
            r.number = t.number;
            r.args = new Term[t.args.length];
            r.binders = new int[t.args.length][];
            for (int i = 0; i < t.args.length; i++) {
                Map<Integer, Integer> inner = new HashMap<>(names);
                r.binders[i] = new int[t.binders[i].length];
                for (int k = 0; k < r.binders[i].length; k++) {
                    r.binders[i][k] = nextName++;
                    inner.put(t.binders[i][k], r.binders[i][k]);
                }
                r.args[i] = rename(t.args[i], inner);
            }
            return r;
        }

        Term head(Term t) {
            while (t.sort == 2 && fillings.containsKey(t.number)) {
                Filling f = fillings.get(t.number);
                Map<Integer, Integer> names = new HashMap<>();
                for (int i = 0; i < f.params.length; i++) names.put(f.params[i], t.vars[i]);
                t = rename(f.body, names);
            }
            return t;
        }

        Term full(Term t) {
            t = head(t);
            if (t.sort != 1) return t;
            Term r = new Term();
            r.sort = 1;
            r.number = t.number;
            r.binders = t.binders;
            r.args = new Term[t.args.length];
            for (int i = 0; i < t.args.length; i++) r.args[i] = full(t.args[i]);
            return r;
        }

        int newHole(int n) {
            if (told.size() + newHoles.size() >= 300) throw new Fault(5);
            int h = 1000 + newHoles.size();
            newHoles.put(h, n);
            return h;
        }

        int arityOf(int h) {
            return h >= 1000 ? newHoles.get(h) : told.get(h);
        }

        int[] freshParams(int h) {
            int[] p = new int[arityOf(h)];
            for (int i = 0; i < p.length; i++) p[i] = nextName++;
            return p;
        }

        void fillWithHole(int h, int g, List<Integer> kept) {
            int[] p = freshParams(h);
            int[] vars = new int[kept.size()];
            for (int i = 0; i < vars.length; i++) vars[i] = p[kept.get(i)];
            fillings.put(h, new Filling(p, hole(g, vars)));
        }

        int nodes(Term t) {
            int n = 1;
            for (Term a : t.args) n += nodes(a);
            return n;
        }

        int sizeOf(int h) {
            return nodes(full(hole(h, freshParams(h))));
        }

        int check(int a, int b) {
            if (a < 0 || a > 7 || b < 0 || b > 7) return IAE;
            if (!whole(a) || !whole(b) || slots[a].depth != slots[b].depth) return ISE;
            return 0;
        }

        int unify(int a, int b) {
            int c = check(a, b);
            if (c != 0) return c;
            Map<Integer, Integer> holesBefore = new HashMap<>(newHoles);
            Map<Integer, Filling> fillingsBefore = new HashMap<>(fillings);
            try {
                List<Term[]> equations = new ArrayList<>();
                equations.add(new Term[] {tree(a), tree(b)});
                while (!equations.isEmpty()) {
                    Term[] e = equations.remove(0);
                    step(head(e[0]), head(e[1]), equations);
                }
                good++;
                return 0;
            } catch (Fault f) {
                newHoles = holesBefore;
                fillings = fillingsBefore;
                bad++;
                return f.number;
            }
        }

        void step(Term l, Term r, List<Term[]> equations) {
            if (l.sort == 2 && r.sort == 2) {
                if (l.number == r.number) {
                    List<Integer> kept = new ArrayList<>();
                    for (int i = 0; i < l.vars.length; i++) if (l.vars[i] == r.vars[i]) kept.add(i);
                    if (kept.size() < l.vars.length) fillWithHole(l.number, newHole(kept.size()), kept);
                    return;
                }
                List<Integer> inLeft = new ArrayList<>();
                List<Integer> inRight = new ArrayList<>();
                for (int i = 0; i < l.vars.length; i++)
                    for (int k = 0; k < r.vars.length; k++)
                        if (l.vars[i] == r.vars[k]) { inLeft.add(i); inRight.add(k); }
                int g = newHole(inLeft.size());
                fillWithHole(l.number, g, inLeft);
                fillWithHole(r.number, g, inRight);
            } else if (l.sort == 2) {
                fillWithTerm(l, r);
            } else if (r.sort == 2) {
                fillWithTerm(r, l);
            } else if (l.sort != r.sort || l.number != r.number) {
                throw new Fault(1);
            } else {
                for (int i = 0; i < l.args.length; i++) {
                    Map<Integer, Integer> names = new HashMap<>();
                    for (int k = 0; k < l.binders[i].length; k++) names.put(r.binders[i][k], l.binders[i][k]);
                    equations.add(i, new Term[] {l.args[i], rename(r.args[i], names)});
                }
            }
        }

        void fillWithTerm(Term h, Term t) {
            Set<Integer> allowed = new HashSet<>();
            for (int v : h.vars) allowed.add(v);
            goThrough(h.number, allowed, t, new HashSet<>());
            fillings.put(h.number, new Filling(h.vars, full(t)));
            for (int i = 0; i < told.size(); i++) if (sizeOf(i) > 80) throw new Fault(4);
            for (int g : newHoles.keySet()) if (sizeOf(g) > 80) throw new Fault(4);
        }

        void goThrough(int h, Set<Integer> allowed, Term t, Set<Integer> bound) {
            t = head(t);
            if (t.sort == 0) {
                if (!bound.contains(t.number) && !allowed.contains(t.number)) throw new Fault(2);
            } else if (t.sort == 2) {
                if (t.number == h) throw new Fault(3);
                List<Integer> kept = new ArrayList<>();
                for (int i = 0; i < t.vars.length; i++)
                    if (bound.contains(t.vars[i]) || allowed.contains(t.vars[i])) kept.add(i);
                if (kept.size() < t.vars.length) fillWithHole(t.number, newHole(kept.size()), kept);
            } else {
                for (int i = 0; i < t.args.length; i++) {
                    Set<Integer> inner = new HashSet<>(bound);
                    for (int b : t.binders[i]) inner.add(b);
                    goThrough(h, allowed, t.args[i], inner);
                }
            }
        }

        int read(int s) {
            int c = check(s, s);
            if (c != 0) return c;
            lastRead = new ArrayList<>();
            List<Integer> scope = new ArrayList<>();
            for (int i = 0; i < slots[s].depth; i++) scope.add(i);
            Map<Integer, Integer[]> orders = new HashMap<>();
            Map<Integer, Integer> names = new HashMap<>();
            write(full(tree(s)), scope, names, orders);
            lastOpen = names.size();
            return lastRead.size();
        }

        void write(Term t, List<Integer> scope, Map<Integer, Integer> names, Map<Integer, Integer[]> orders) {
            if (t.sort == 0) {
                lastRead.add(4 * scope.indexOf(t.number));
            } else if (t.sort == 2) {
                if (!names.containsKey(t.number)) {
                    names.put(t.number, names.size());
                    Integer[] order = new Integer[t.vars.length];
                    for (int i = 0; i < order.length; i++) order[i] = i;
                    Arrays.sort(order, (p, q) -> scope.indexOf(t.vars[p]) - scope.indexOf(t.vars[q]));
                    orders.put(t.number, order);
                }
                lastRead.add(4 * names.get(t.number) + 2);
                for (int p : orders.get(t.number)) lastRead.add(4 * scope.indexOf(t.vars[p]));
            } else {
                lastRead.add(4 * t.number + 1);
                for (int i = 0; i < t.args.length; i++) {
                    List<Integer> inner = new ArrayList<>(scope);
                    for (int b : t.binders[i]) inner.add(0, b);
                    write(t.args[i], inner, names, orders);
                }
            }
        }

        int item(int i) {
            return i < 0 || i >= lastRead.size() ? IOOBE : lastRead.get(i);
        }

        int isSame(int a, int b) {
            int c = check(a, b);
            return c != 0 ? c : same(full(tree(a)), full(tree(b)), new HashMap<>()) ? 1 : 0;
        }

        boolean same(Term l, Term r, Map<Integer, Integer> names) {
            if (l.sort != r.sort) return false;
            if (l.sort == 0) return l.number == names.getOrDefault(r.number, r.number);
            if (l.number != r.number) return false;
            for (int i = 0; i < l.vars.length; i++)
                if (l.vars[i] != names.getOrDefault(r.vars[i], r.vars[i])) return false;
            for (int i = 0; i < l.args.length; i++) {
                Map<Integer, Integer> inner = new HashMap<>(names);
                for (int k = 0; k < l.binders[i].length; k++) inner.put(r.binders[i][k], l.binders[i][k]);
                if (!same(l.args[i], r.args[i], inner)) return false;
            }
            return true;
        }

        int size(int h) {
            return h < 0 || h >= told.size() ? IAE : sizeOf(h);
        }

        int uses(int h) {
            if (h < 0 || h >= told.size()) return IAE;
            int[] p = freshParams(h);
            Set<Integer> found = new HashSet<>();
            collect(full(hole(h, p)), found);
            int bits = 0;
            for (int i = 0; i < p.length; i++) if (found.contains(p[i])) bits |= 1 << i;
            return bits;
        }

        void collect(Term t, Set<Integer> found) {
            if (t.sort == 0) found.add(t.number);
            for (int v : t.vars) found.add(v);
            for (Term a : t.args) collect(a, found);
        }

        int empty() {
            int n = 0;
            for (int h : fillings.keySet()) if (h < 1000) n++;
            fillings.clear();
            newHoles.clear();
            return n;
        }

        int count(int what) {
            int[] all = {operations.size(), told.size(), newHoles.size(), fillings.size(), lastRead.size(), lastOpen, good, bad};
            return what < 0 || what > 7 ? -1 : all[what];
        }
    }

    static long seed;

    static int pick(int n) {
        seed = seed * 6364136223846793005L + 1442695040888963407L;
        return (int) ((seed >>> 33) % n);
    }

    static int hash(long s, long path, int n) {
        long z = s * 0x9E3779B97F4A7C15L + path * 0xBF58476D1CE4E5B9L + 12345;
        z = (z ^ (z >>> 30)) * 0xBF58476D1CE4E5B9L;
        z = (z ^ (z >>> 27)) * 0x94D049BB133111EBL;
        return (int) (((z ^ (z >>> 31)) >>> 1) % n);
    }

    static Model model;
    static HoleFiller real;
    static List<String> log;
    static int calls;
    static int wrong;
    static final int[] faults = new int[6];
    static int mostNew;

    static int call(String name, int a, int b, int c) {
        if (calls >= 512) return 0;
        calls++;
        int due;
        int got;
        switch (name) {
            case "operation": due = model.operation(a, b, c); break;
            case "hole": due = model.tellHole(a); break;
            case "begin": due = model.begin(a, b); break;
            case "put": due = model.put(a, b, c); break;
            case "unify": due = model.unify(a, b); break;
            case "read": due = model.read(a); break;
            case "item": due = model.item(a); break;
            case "isSame": due = model.isSame(a, b); break;
            case "size": due = model.size(a); break;
            case "uses": due = model.uses(a); break;
            case "empty": due = model.empty(); break;
            default: due = model.count(a); break;
        }
        try {
            switch (name) {
                case "operation": got = real.operation(a, b, c); break;
                case "hole": got = real.hole(a); break;
                case "begin": got = real.begin(a, b); break;
                case "put": got = real.put(a, b, c); break;
                case "unify": got = real.unify(a, b); break;
                case "read": got = real.read(a); break;
                case "item": got = real.item(a); break;
                case "isSame": got = real.isSame(a, b) ? 1 : 0; break;
                case "size": got = real.size(a); break;
                case "uses": got = real.uses(a); break;
                case "empty": got = real.empty(); break;
                default: got = real.count(a); break;
            }
        } catch (IllegalArgumentException e) {
            got = IAE;
        } catch (IllegalStateException e) {
            got = ISE;
        } catch (IndexOutOfBoundsException e) {
            got = IOOBE;
        }
        log.add(name + "(" + a + ", " + b + ", " + c + ") = " + got);
        if (name.equals("unify") && due >= 0) faults[due]++;
        mostNew = Math.max(mostNew, model.newHoles.size());
        if (got != due) {
            wrong++;
            if (wrong <= 3) {
                for (String line : log) System.out.println(line);
                System.out.println("  the last one is due to be " + due);
            }
        }
        return got;
    }

    /** Puts a term whose shape hangs on one seed, and where it has holes instead on another one. */
    static void putTerm(int slot, long shape, long cut, int cutOf10, long path, int variables, int height) {
        if (hash(cut, path, 10) < cutOf10 && !model.told.isEmpty()) {
            int h = hash(cut, path + 77, model.told.size());
            if (model.told.get(h) <= variables) {
                call("put", slot, 2, h);
                List<Integer> order = new ArrayList<>();
                for (int i = 0; i < variables; i++) order.add(hash(cut, path + 5 + i, order.size() + 1), i);
                for (int i = 0; i < model.told.get(h); i++) call("put", slot, 0, order.get(i));
                return;
            }
        }
        int f = hash(shape, path + 3, model.operations.size());
        boolean leaf = height == 0 || hash(shape, path + 1, 4) == 0;
        if (leaf && variables > 0 && hash(shape, path + 2, 4) > 0) {
            call("put", slot, 0, hash(shape, path + 4, variables));
            return;
        }
        if (leaf) f = 0;
        if (call("put", slot, 1, f) < 0) return;
        int[] binds = model.operations.get(f);
        for (int i = 0; i < binds.length; i++)
            putTerm(slot, shape, cut, cutOf10, path * 31 + 11 * (i + 1), variables + binds[i], height - 1);
    }

    static void lookAtAll() {
        for (int what = 2; what < 8; what++) call("count", what, 0, 0);
        for (int h = 0; h < model.told.size(); h++) {
            call("size", h, 0, 0);
            call("uses", h, 0, 0);
        }
    }

    static void readWhole(int slot) {
        int n = call("read", slot, 0, 0);
        call("count", 5, 0, 0);
        int all = model.lastRead.size();
        for (int i = 0; i < n && i < 40; i++) call("item", n > 40 ? pick(all) : i, 0, 0);
        call("item", n, 0, 0);
    }

    static void runOne(long number) {
        seed = number * 7919 + 17;
        model = new Model();
        real = new HoleFiller();
        log = new ArrayList<>();
        calls = 0;
        call("operation", -1, -1, -1);
        int operations = 1 + pick(4);
        for (int i = 0; i < operations; i++) {
            int a = pick(3);
            int b = pick(4) - 1;
            call("operation", a, b, b < 0 ? -1 : pick(4) - 1);
        }
        int holes = pick(4) == 0 ? 24 : 1 + pick(10);
        for (int i = 0; i < holes; i++) call("hole", pick(5), 0, 0);
        for (int round = 0; calls < 512 && round < 30; round++) {
            int depth = pick(5);
            long shape = pick(1 << 30);
            int height = 1 + pick(4);
            int cutOf10 = 1 + pick(5);
            for (int s = 0; s < 2 + pick(2); s++) {
                call("begin", s, depth, 0);
                putTerm(s, pick(5) == 0 ? shape + 1 : shape, pick(1 << 30), cutOf10, 1, depth, height);
            }
            call("isSame", 0, 1, 0);
            call("unify", pick(3), pick(3), 0);
            call("unify", 0, 1, 0);
            call("isSame", 0, 1, 0);
            if (pick(3) == 0) readWhole(pick(3));
            if (pick(3) == 0) lookAtAll();
            if (pick(4) == 0) strayCall();
            if (pick(holes == 24 ? 40 : 4) == 0) call("empty", 0, 0, 0);
        }
    }

    static void strayCall() {
        String[] names = {"operation", "hole", "begin", "put", "unify", "read", "item", "isSame", "size", "uses", "count"};
        call(names[pick(names.length)], pick(12) - 2, pick(10) - 2, pick(8) - 2);
    }

    /** Calls with any arguments at all, near the edges. */
    static void runStray(long number) {
        seed = number * 104729 + 5;
        model = new Model();
        real = new HoleFiller();
        log = new ArrayList<>();
        calls = 0;
        for (int i = 0; i < 512; i++) {
            int kind = pick(20);
            if (kind < 12) call("put", pick(3), pick(4) - (pick(9) == 0 ? 1 : 0), pick(5) - (pick(9) == 0 ? 1 : 0));
            else if (kind < 14) call("unify", pick(3), pick(3), 0);
            else if (kind < 16) call("begin", pick(3), pick(4), 0);
            else strayCall();
        }
    }

    /** A term whose leaves are holes behind h, mostly, so that it can fill h. */
    static void putAbove(int slot, int h, int variables, int height) {
        if (height == 0 || pick(5) == 0) {
            int g = h + 1 + pick(model.told.size());
            if (pick(12) == 0) {
                call("put", slot, 0, pick(variables));
            } else if (g >= model.told.size() || model.told.get(g) > variables) {
                call("put", slot, 1, 0);
            } else {
                call("put", slot, 2, g);
                int turn = pick(variables);
                for (int i = 0; i < model.told.get(g); i++) call("put", slot, 0, (turn + i) % variables);
            }
            return;
        }
        int f = 1 + pick(model.operations.size() - 1);
        if (call("put", slot, 1, f) < 0) return;
        for (int binds : model.operations.get(f)) putAbove(slot, h, variables + binds, height - 1);
    }

    /** Holes filled with terms of holes behind them, in any order, so that sizes come to 80 and above it. */
    static void runGrowing(long number) {
        seed = number * 15485863 + 3;
        model = new Model();
        real = new HoleFiller();
        log = new ArrayList<>();
        calls = 0;
        call("operation", -1, -1, -1);
        call("operation", pick(3), pick(3), -1);
        if (pick(2) == 0) call("operation", pick(2), -1, -1);
        if (pick(2) == 0) call("operation", pick(2), pick(2), pick(2));
        int holes = 4 + pick(6);
        for (int i = 0; i < holes; i++) call("hole", pick(4), 0, 0);
        for (int round = 0; calls < 500 && round < 40; round++) {
            int h = pick(2) == 0 ? round % holes : pick(holes);
            call("begin", 0, 3, 0);
            call("put", 0, 2, h);
            for (int i = 0; i < model.told.get(h); i++) call("put", 0, 0, (i + round) % 3);
            call("begin", 1, 3, 0);
            putAbove(1, h, 3, 1 + pick(3));
            if (pick(2) == 0) call("unify", 0, 1, 0);
            else call("unify", 1, 0, 0);
            call("size", h, 0, 0);
            if (pick(6) == 0) readWhole(pick(2));
            if (pick(9) == 0) lookAtAll();
            if (pick(30) == 0) call("empty", 0, 0, 0);
        }
    }

    static void putHole(int slot, int h, int turn, int swapAt) {
        call("put", slot, 2, h);
        for (int i = 0; i < model.told.get(h); i++) call("put", slot, 0, i == swapAt ? 5 : (turn + i) % 5);
    }

    /** Holes against holes that differ by little, so that many new holes come one out of the other. */
    static void runNarrowing(long number) {
        seed = number * 32452843 + 9;
        model = new Model();
        real = new HoleFiller();
        log = new ArrayList<>();
        calls = 0;
        call("operation", pick(3), pick(3), -1);
        for (int i = 0; i < 24; i++) call("hole", 2 + pick(3), 0, 0);
        for (int round = 0; calls < 440; round++) {
            int width = 1 + pick(2);
            int turn = pick(5);
            boolean same = pick(4) > 0;
            int[] chosen = {pick(24), pick(24)};
            for (int s = 0; s < 2; s++) {
                call("begin", s, 6, 0);
                if (width == 2) call("put", s, 1, 0);
                for (int i = 0; i < width; i++) putHole(s, same || s == 0 ? chosen[i] : pick(24), turn, pick(6));
            }
            call("unify", 0, 1, 0);
            call("count", 2 + pick(2), 0, 0);
            call("uses", chosen[0], 0, 0);
        }
        call("begin", 2, 6, 0);
        call("put", 2, 1, 0);
        for (int i = 0; i < 2; i++) putHole(2, pick(24), pick(5), 9);
        readWhole(2);
        call("count", 3, 0, 0);
        call("empty", 0, 0, 0);
        call("count", 2, 0, 0);
        readWhole(2);
    }

    public static void main(String[] args) {
        int runs = args.length > 0 ? Integer.parseInt(args[0]) : 1500;
        for (int i = 0; i < runs && wrong < 20; i++) {
            runOne(i);
            runStray(i);
            runGrowing(i);
            runNarrowing(i);
        }
        for (int fault = 0; fault < 5; fault++) {
            if (faults[fault] == 0) {
                wrong++;
                System.out.println("no unifying came to " + fault);
            }
        }
        System.out.println("unifyings by their answer: " + Arrays.toString(faults) + ", at most " + mostNew + " new holes");
        System.out.println(wrong == 0 ? "all answers are as the model's" : wrong + " answers are not as the model's");
        if (wrong != 0) System.exit(1);
    }
}
