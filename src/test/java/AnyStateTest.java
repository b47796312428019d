/**
 * Rule 7 of the language: no call may throw, for any arguments in any state. Every call with all that its
 * arguments can be at their edges, in objects from new to full, compared with the slow model.
 */
public final class AnyStateTest {
    private static final int[] EDGES = {
        Integer.MIN_VALUE, Integer.MIN_VALUE + 1, -33, -32, -2, -1, 0, 1, 2, 3, 4, 7, 8, 11, 12, 15, 16, 17, 18, 19, 20,
        23, 24, 31, 32, 33, 39, 40, 99, 100, 249, 250, 251, 255, 256, Integer.MAX_VALUE - 1, Integer.MAX_VALUE};
    private static final int[] FEW = {Integer.MIN_VALUE, -1, 0, 1, 2, 11, 12, 19, 20, 31, 32, 255, 256, Integer.MAX_VALUE};
    private static final int STATES = 5;

    private static final Due due = new Due();

    private final String state;
    private final ShaclSteps x = new ShaclSteps();
    private final SlowModel y = new SlowModel();

    private AnyStateTest(int state) {
        this.state = "state " + state + ": ";
        if (state >= 1) {
            someOfAll();
        }
        if (state == 2) {
            shapesThatLeadToAll();
        }
        if (state >= 3) {
            fullOfAll(state == 3);
        }
    }

    public static void main(String[] args) {
        for (int state = 0; state < STATES; state++) {
            new AnyStateTest(state).everyCall();
        }
        due.end();
    }

    private void someOfAll() {
        shape(-1);
        shape(2);
        triple(0, 2, 0);
        triple(19, 7, 31);
        triple(0, 0, 19);
        target(1, 0, 0);
        constraint(1, 1, 1, 0);
    }

    private void shapesThatLeadToAll() {
        for (int s = 2; s < 12; s++) {
            shape(s - 1);
        }
        for (int s = 11; s > 0; s--) {
            constraint(s, 11 + s % 7, s - 1, s - 1);
        }
        target(11, 3, 7);
    }

    /** With few results, or with far too many. */
    private void fullOfAll(boolean fewResults) {
        for (int i = 0; i < 12; i++) {
            shape(2);
        }
        for (int i = 0; i < 128; i++) {
            triple(i % 20, 2, i % 32);
        }
        for (int i = 0; i < 24; i++) {
            target(i % 12, 2, 2);
        }
        for (int i = 0; i < 40; i++) {
            constraint(i % 12, 4, fewResults ? -1 : 0, 0);
        }
    }

    private void everyCall() {
        questions();
        for (int a : EDGES) {
            for (int b : EDGES) {
                for (int c : EDGES) {
                    target(a, b, c);
                }
                severity(a, b);
            }
        }
        questions();
        for (int a : FEW) {
            for (int kind = -1; kind <= 18; kind++) {
                for (int b : FEW) {
                    for (int c : FEW) {
                        constraint(a, kind, b, c);
                    }
                }
            }
            constraint(a, a, a, a);
        }
        questions();
        for (int a : EDGES) {
            for (int b : EDGES) {
                for (int c : EDGES) {
                    triple(a, b, c);
                }
            }
            shape(a);
        }
        questions();
        for (int a : EDGES) {
            for (int b : EDGES) {
                for (int c : EDGES) {
                    drop(a, b, c);
                }
            }
        }
        questions();
    }

    private void questions() {
        is("run", x.run(), y.run());
        for (int a : EDGES) {
            is("worst " + a, x.worst(a), y.worst(a));
            is("count " + a, x.count(a), y.count(a));
            for (int b : EDGES) {
                is("fits " + a + " " + b, x.fits(a, b), y.fits(a, b));
                is("focus " + a + " " + b, x.focus(a, b), y.focus(a, b));
                is("isOf " + a + " " + b, x.isOf(a, b), y.isOf(a, b));
                for (int c : EDGES) {
                    is("value " + a + " " + b + " " + c, x.value(a, b, c), y.value(a, b, c));
                }
            }
        }
        for (int i : EDGES) {
            for (int what : FEW) {
                is("result " + i + " " + what, x.result(i, what), y.result(i, what));
            }
        }
    }

    private void is(String what, int got, int want) {
        due.is(state + what, got, want);
    }

    private void triple(int s, int p, int o) {
        is("triple " + s + " " + p + " " + o, x.triple(s, p, o), y.triple(s, p, o));
    }

    private void drop(int s, int p, int o) {
        is("drop " + s + " " + p + " " + o, x.drop(s, p, o), y.drop(s, p, o));
    }

    private void shape(int path) {
        is("shape " + path, x.shape(path), y.shape(path));
    }

    private void severity(int shape, int severity) {
        is("severity " + shape + " " + severity, x.severity(shape, severity), y.severity(shape, severity));
    }

    private void target(int shape, int kind, int a) {
        is("target " + shape + " " + kind + " " + a, x.target(shape, kind, a), y.target(shape, kind, a));
    }

    private void constraint(int shape, int kind, int a, int b) {
        is("constraint " + shape + " " + kind + " " + a + " " + b,
                x.constraint(shape, kind, a, b), y.constraint(shape, kind, a, b));
    }
}
