/** Runs of made-up calls, the same ones each time, on the program and on the slow model. */
public final class ModelTest {
    private static final int RUNS = 120;
    private static final int CALLS = 512;
    private static final Due due = new Due();

    /** A plain row of numbers, so that a run can be had again. */
    private static final class Numbers {
        private long state;

        Numbers(long seed) {
            state = seed * 0x9E3779B97F4A7C15L + 1;
        }

        int below(int end) {
            state = state * 6364136223846793005L + 1442695040888963407L;
            return (int) ((state >>> 33) % end);
        }

        /** Most of the time within 0 .. end - 1, now and then beside it, seldom far off. */
        int about(int end) {
            int pick = below(300);
            if (pick == 0) return Integer.MIN_VALUE;
            if (pick == 1) return Integer.MAX_VALUE;
            if (pick < 5) return -1;
            if (pick < 9) return end;
            return below(end);
        }

        int bits() {
            return below(1 << 16) << 16 | below(1 << 16);
        }
    }

    private static int most = 0;
    private static int large = 0;
    private static final int[] kindSeen = new int[18];

    public static void main(String[] args) {
        for (int run = 0; run < RUNS && due.wrong() < 20; run++) {
            oneRun(run);
        }
        for (int kind = 0; kind < 18; kind++) {
            due.holds("results were seen of kind " + kind, kind == 16 || kindSeen[kind] > 20);
        }
        due.holds("LARGE was seen", large > 10);
        due.holds("many results were seen", most > 200);
        due.end();
    }

    private static void oneRun(int run) {
        Numbers n = new Numbers(run);
        ShaclSteps x = new ShaclSteps();
        SlowModel y = new SlowModel();
        int nodes = 3 + n.below(18);
        if (nodes > 20) nodes = 20;
        int predicates = 2 + n.below(7);
        if (predicates > 8) predicates = 8;
        int shapes = 2 + n.below(11);
        int building = 40 + n.below(200);
        int[] kindOf = new int[40];
        for (int call = 0; call < CALLS; call++) {
            int pick = n.below(call < building ? 10 : 24);
            String at = "run " + run + ", call " + call + ": ";
            if (pick < 8) {
                change(at, pick, n, x, y, new int[] {nodes, predicates, shapes}, kindOf);
            } else {
                ask(at, n, x, y, kindOf);
            }
        }
    }

    private static int term(Numbers n, int nodes) {
        int t = n.about(nodes + 12);
        return t >= nodes && t < nodes + 12 ? t - nodes + 20 : t;
    }

    private static void change(String at, int pick, Numbers n, ShaclSteps x, SlowModel y, int[] ends, int[] kindOf) {
        int shapes = ends[2];
        if (pick < 4) {
            int s = n.about(ends[0]), p = n.about(ends[1]), o = term(n, ends[0]);
            due.is(at + "triple(" + s + ", " + p + ", " + o + ")", x.triple(s, p, o), y.triple(s, p, o));
        } else if (pick == 4) {
            int s = n.about(ends[0]), p = n.about(ends[1]), o = term(n, ends[0]);
            if (n.below(3) == 0) {
                due.is(at + "drop(" + s + ", " + p + ", " + o + ")", x.drop(s, p, o), y.drop(s, p, o));
            }
            int s2 = n.about(shapes), v = n.about(3);
            due.is(at + "severity(" + s2 + ", " + v + ")", x.severity(s2, v), y.severity(s2, v));
        } else if (pick == 5) {
            int path = n.below(3) == 0 ? -1 : n.about(ends[1]) + 8 * n.below(2);
            if (x.count(1) < shapes || n.below(20) == 0) {
                due.is(at + "shape(" + path + ")", x.shape(path), y.shape(path));
            }
        } else if (pick == 6) {
            int s = n.about(shapes), k = n.about(4);
            int a = k == 0 ? term(n, ends[0]) : k == 1 ? n.about(ends[0]) : n.about(ends[1]);
            if (n.below(3) == 0) {
                due.is(at + "target(" + s + ", " + k + ", " + a + ")", x.target(s, k, a), y.target(s, k, a));
            }
        } else {
            addConstraint(at, n, x, y, ends, kindOf);
        }
    }

    private static void addConstraint(String at, Numbers n, ShaclSteps x, SlowModel y, int[] ends, int[] kindOf) {
        int s = n.about(ends[2]), k = n.about(18), a, b = n.about(ends[2]);
        switch (k) {
            case 0: a = n.about(ends[0]); break;
            case 1: a = n.about(4); break;
            case 2: a = n.about(3); b = n.about(5); break;
            case 3: a = n.about(4); b = a + n.about(4); break;
            case 4: case 10: a = n.bits() | n.bits(); break;
            case 5: a = term(n, ends[0]); break;
            case 6: case 7: case 8: a = n.about(ends[1]); break;
            case 17: a = n.about(ends[2]); b = n.below(10) == 0 ? n.about(256) : n.about(3) * 16 + n.about(5); break;
            default: a = n.about(ends[2]);
        }
        int want = y.constraint(s, k, a, b);
        due.is(at + "constraint(" + s + ", " + k + ", " + a + ", " + b + ")", x.constraint(s, k, a, b), want);
        if (want >= 0) {
            kindOf[want] = k;
        }
    }

    private static void ask(String at, Numbers n, ShaclSteps x, SlowModel y, int[] kindOf) {
        int shape = n.about(Math.max(1, x.count(1)));
        int many = y.run();
        due.is(at + "run()", x.run(), many);
        if (many == -4) large++;
        most = Math.max(most, many);
        int i = n.about(Math.max(1, many)), what = n.about(4);
        due.is(at + "result(" + i + ", " + what + ")", x.result(i, what), y.result(i, what));
        if (i >= 0 && i < many) {
            kindSeen[kindOf[y.result(i, 2)]]++;
        }
        int severity = n.about(3);
        due.is(at + "worst(" + severity + ")", x.worst(severity), y.worst(severity));
        int t = n.about(32);
        due.is(at + "fits(" + t + ", " + shape + ")", x.fits(t, shape), y.fits(t, shape));
        int j = n.about(4);
        due.is(at + "focus(" + shape + ", " + j + ")", x.focus(shape, j), y.focus(shape, j));
        due.is(at + "value(" + t + ", " + shape + ", " + j + ")", x.value(t, shape, j), y.value(t, shape, j));
        int c = n.about(20);
        due.is(at + "isOf(" + t + ", " + c + ")", x.isOf(t, c), y.isOf(t, c));
        int of = n.about(4);
        due.is(at + "count(" + of + ")", x.count(of), y.count(of));
    }
}
