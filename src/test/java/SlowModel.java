import java.util.ArrayList;
import java.util.List;
import java.util.Set;
import java.util.TreeSet;

/** The document's words, followed one by one without any regard for speed. */
final class SlowModel {
    private final Set<List<Integer>> triples = new java.util.HashSet<>();
    private final List<int[]> shapes = new ArrayList<>();
    private final List<int[]> targets = new ArrayList<>();
    private final List<int[]> constraints = new ArrayList<>();

    private static boolean in(int x, int end) {
        return 0 <= x && x < end;
    }

    private static boolean literal(int t) {
        return t >= 20;
    }

    private static int number(int t) {
        return (t - 20) / 2;
    }

    private static int tag(int t) {
        return (t - 20) % 2;
    }

    private boolean isShape(int s) {
        return in(s, shapes.size());
    }

    int triple(int s, int p, int o) {
        if (!in(s, 20) || !in(p, 8) || !in(o, 32)) return -1;
        if (triples.contains(List.of(s, p, o))) return 0;
        if (triples.size() == 100) return -3;
        triples.add(List.of(s, p, o));
        return 1;
    }

    int drop(int s, int p, int o) {
        if (!in(s, 20) || !in(p, 8) || !in(o, 32)) return -1;
        return triples.remove(List.of(s, p, o)) ? 1 : 0;
    }

    int shape(int path) {
        if (path < -1 || path > 15) return -1;
        if (shapes.size() == 12) return -3;
        shapes.add(new int[] {path, 2});
        return shapes.size() - 1;
    }

    int severity(int shape, int severity) {
        if (!isShape(shape) || !in(severity, 3)) return -1;
        int was = shapes.get(shape)[1];
        shapes.get(shape)[1] = severity;
        return was == severity ? 0 : 1;
    }

    int target(int shape, int kind, int a) {
        if (!isShape(shape) || !in(kind, 4)) return -1;
        if (!in(a, kind == 0 ? 32 : kind == 1 ? 20 : 8)) return -1;
        if (targets.size() == 24) return -3;
        targets.add(new int[] {shape, kind, a});
        return targets.size();
    }

    int constraint(int shape, int k, int a, int b) {
        if (!isShape(shape) || !in(k, 18)) return -1;
        if (k == 0 && !in(a, 20) || k == 1 && !in(a, 4) || k == 5 && !in(a, 32)) return -1;
        if (k >= 6 && k <= 8 && !in(a, 8) || k >= 11 && !isShape(a)) return -1;
        if (k >= 12 && k <= 14 && !isShape(b) || k == 17 && !in(b, 256)) return -1;
        if (k == 2 && (a < 0 || b < 0)) return -1;
        if (k >= 11 && leadsTo(a, shape) || k >= 12 && k <= 14 && leadsTo(b, shape)) return -2;
        if (constraints.size() == 40) return -3;
        constraints.add(new int[] {shape, k, a, b});
        return constraints.size() - 1;
    }

    private boolean leadsTo(int from, int to) {
        if (from == to) return true;
        for (int[] c : constraints) {
            if (c[0] != from || c[1] < 11) continue;
            if (leadsTo(c[2], to)) return true;
            if (c[1] >= 12 && c[1] <= 14 && leadsTo(c[3], to)) return true;
        }
        return false;
    }

    private TreeSet<Integer> ahead(int x, int p) {
        TreeSet<Integer> found = new TreeSet<>();
        for (List<Integer> t : triples) if (t.get(0) == x && t.get(1) == p) found.add(t.get(2));
        return found;
    }

    private TreeSet<Integer> back(int x, int p) {
        TreeSet<Integer> found = new TreeSet<>();
        for (List<Integer> t : triples) if (t.get(2) == x && t.get(1) == p) found.add(t.get(0));
        return found;
    }

    private boolean ofClass(int x, int c) {
        for (int type : ahead(x, 0)) if (goesUp(type, c, new TreeSet<>())) return true;
        return false;
    }

    private boolean goesUp(int from, int to, Set<Integer> seen) {
        if (from == to) return true;
        if (!seen.add(from)) return false;
        for (int next : ahead(from, 1)) if (goesUp(next, to, seen)) return true;
        return false;
    }

    private TreeSet<Integer> values(int x, int shape) {
        int path = shapes.get(shape)[0];
        if (path == -1) return new TreeSet<>(Set.of(x));
        return path < 8 ? ahead(x, path) : back(x, path - 8);
    }

    private boolean holdsToAll(int x, int shape) {
        for (int c = 0; c < constraints.size(); c++) {
            if (constraints.get(c)[0] == shape && !faults(x, c).isEmpty()) return false;
        }
        return true;
    }

    /** The values with which a term's results for a constraint come; of kind 16 those that do not fit. */
    private TreeSet<Integer> faults(int x, int number) {
        int[] c = constraints.get(number);
        int k = c[1], a = c[2], b = c[3];
        TreeSet<Integer> values = values(x, c[0]);
        TreeSet<Integer> found = new TreeSet<>();
        if (k == 2 && (values.size() < a || values.size() > b)) found.add(-1);
        if (k == 5 && !values.contains(a)) found.add(-1);
        if (k == 17) {
            int many = 0;
            for (int v : values) if (holdsToAll(v, a)) many++;
            if (many < b / 16 || many > b % 16) found.add(-1);
        }
        if (k == 6) {
            TreeSet<Integer> led = ahead(x, a);
            for (int t = 0; t < 32; t++) if (values.contains(t) != led.contains(t)) found.add(t);
        }
        if (k == 9) {
            for (int u : values) for (int v : values) {
                if (u < v && literal(u) && literal(v) && tag(u) == tag(v)) {
                    int least = u;
                    for (int w : values) if (literal(w) && tag(w) == tag(u)) least = Math.min(least, w);
                    found.add(least);
                }
            }
        }
        if (k == 10) {
            for (List<Integer> t : triples) {
                if (values.contains(t.get(0)) && (a >> t.get(1) & 1) == 0) found.add(t.get(2));
            }
        }
        if (k != 2 && k != 5 && k != 17 && k != 6 && k != 9 && k != 10) {
            for (int v : values) if (!asTold(x, v, k, a, b)) found.add(v);
        }
        return found;
    }

    private boolean asTold(int x, int v, int k, int a, int b) {
        switch (k) {
            case 0: return ofClass(v, a);
            case 1: return a == 0 ? !literal(v) : literal(v) && (a == 1 || tag(v) == a - 2);
            case 3: return literal(v) && number(v) >= a && number(v) <= b;
            case 4: return (a >>> v) % 2 != 0;
            case 7: return !triples.contains(List.of(x, a, v));
            case 8:
                for (int t : ahead(x, a)) if (!literal(t) || literal(v) && number(t) <= number(v)) return false;
                return literal(v);
            case 11: return !holdsToAll(v, a);
            case 12: return holdsToAll(v, a) && holdsToAll(v, b);
            case 13: return holdsToAll(v, a) || holdsToAll(v, b);
            case 14: return holdsToAll(v, a) != holdsToAll(v, b);
            default: return holdsToAll(v, a);
        }
    }

    private TreeSet<Integer> foci(int shape) {
        TreeSet<Integer> found = new TreeSet<>();
        for (int[] t : targets) {
            if (t[0] != shape) continue;
            for (int x = 0; x < 32; x++) {
                boolean aimedAt = t[1] == 0 && x == t[2] || t[1] == 1 && ofClass(x, t[2])
                        || t[1] == 2 && !ahead(x, t[2]).isEmpty() || t[1] == 3 && !back(x, t[2]).isEmpty();
                if (aimedAt) found.add(x);
            }
        }
        return found;
    }

    private void tell(int x, int shape, Set<List<Integer>> results) {
        for (int c = 0; c < constraints.size(); c++) {
            if (constraints.get(c)[0] != shape) continue;
            for (int v : faults(x, c)) {
                if (constraints.get(c)[1] == 16) tell(v, constraints.get(c)[2], results);
                else results.add(List.of(x, shape, c, v));
            }
        }
    }

    private List<List<Integer>> results() {
        Set<List<Integer>> found = new java.util.HashSet<>();
        for (int s = 0; s < shapes.size(); s++) for (int x : foci(s)) tell(x, s, found);
        List<List<Integer>> rows = new ArrayList<>(found);
        rows.sort((l, r) -> {
            for (int i = 0; i < 4; i++) if (!l.get(i).equals(r.get(i))) return l.get(i) - r.get(i);
            return 0;
        });
        return rows;
    }

    int run() {
        int many = results().size();
        return many > 250 ? -4 : many;
    }

    int result(int i, int what) {
        if (!in(what, 4)) return -1;
        List<List<Integer>> rows = results();
        if (rows.size() > 250) return -4;
        return in(i, rows.size()) ? rows.get(i).get(what) : -2;
    }

    int worst(int severity) {
        if (!in(severity, 3)) return -1;
        List<List<Integer>> rows = results();
        if (rows.size() > 250) return -4;
        int many = 0;
        for (List<Integer> row : rows) if (shapes.get(row.get(1))[1] == severity) many++;
        return many;
    }

    int fits(int x, int shape) {
        if (!in(x, 32) || !isShape(shape)) return -1;
        return holdsToAll(x, shape) ? 1 : 0;
    }

    private static int at(TreeSet<Integer> terms, int i) {
        return in(i, terms.size()) ? new ArrayList<>(terms).get(i) : -2;
    }

    int focus(int shape, int i) {
        return isShape(shape) ? at(foci(shape), i) : -1;
    }

    int value(int x, int shape, int i) {
        return in(x, 32) && isShape(shape) ? at(values(x, shape), i) : -1;
    }

    int isOf(int x, int c) {
        if (!in(x, 32) || !in(c, 20)) return -1;
        return ofClass(x, c) ? 1 : 0;
    }

    int count(int what) {
        switch (what) {
            case 0: return triples.size();
            case 1: return shapes.size();
            case 2: return targets.size();
            case 3: return constraints.size();
            default: return -1;
        }
    }
}
