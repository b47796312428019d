/**
 * Shapes that things in triples have to fit, and all that does not fit.
 *
 * Sets of terms are held as the bits of an int (bit t for term t), and so are sets of shapes.
 * All rows are made by the constructor; no call makes an object.
 */
public final class ShaclSteps {
    public static final int BAD = -1;
    public static final int NO = -2;
    public static final int FULL = -3;
    public static final int LARGE = -4;

    private static final int TERMS = 32;
    private static final int NODES = 20;
    private static final int NUMBERS = 6;
    private static final int PREDICATES = 8;
    private static final int SEVERITIES = 3;
    private static final int CONSTRAINT_KINDS = 18;

    private static final int MAX_TRIPLES = 100;
    private static final int MAX_SHAPES = 12;
    private static final int MAX_TARGETS = 24;
    private static final int MAX_CONSTRAINTS = 40;
    private static final int MAX_RESULTS = 250;

    private static final int TYPE = 0;
    private static final int BELOW = 1;
    private static final int NO_PATH = -1;
    private static final int FIRST_SEVERITY = 2;

    private static final int ALL_TERMS = 0xFFFFFFFF;
    private static final int ALL_NODES = 0x000FFFFF;
    private static final int ALL_LITERALS = 0xFFF00000;
    private static final int TAG_0_LITERALS = 0x55500000;
    private static final int TAG_1_LITERALS = 0xAAA00000;

    private static final int FOR_TERM = 0;
    private static final int FOR_CLASS = 1;
    private static final int FOR_LEADING = 2;
    private static final int FOR_LED_TO = 3;

    private static final int OF_CLASS = 0;
    private static final int OF_SORT = 1;
    private static final int HOW_MANY = 2;
    private static final int NUMBER_BETWEEN = 3;
    private static final int ONE_OF = 4;
    private static final int HAS_TERM = 5;
    private static final int SAME_AS = 6;
    private static final int NONE_OF = 7;
    private static final int LESS_THAN = 8;
    private static final int ONE_A_TAG = 9;
    private static final int CLOSED = 10;
    private static final int NONE_FITS = 11;
    private static final int FITS_BOTH = 12;
    private static final int FITS_EITHER = 13;
    private static final int FITS_JUST_ONE = 14;
    private static final int ALL_FIT = 15;
    private static final int TOLD_BY_SHAPE = 16;
    private static final int HOW_MANY_FIT = 17;

    private static final long WITHOUT_VALUE = 1L;

    private final Triples triples;
    private final Shapes shapes;
    private final Targets targets;
    private final Constraints constraints;
    private final Findings findings;

    public ShaclSteps() {
        triples = new Triples();
        shapes = new Shapes();
        targets = new Targets();
        constraints = new Constraints();
        findings = new Findings(triples, shapes, targets, constraints);
    }

    public int triple(int s, int p, int o) {
        if (!isTriple(s, p, o)) {
            return BAD;
        }
        if (triples.has(s, p, o)) {
            return 0;
        }
        if (triples.number >= MAX_TRIPLES) {
            return FULL;
        }
        triples.put(s, p, o);
        findings.current = false;
        return 1;
    }

    public int drop(int s, int p, int o) {
        if (!isTriple(s, p, o)) {
            return BAD;
        }
        if (!triples.has(s, p, o)) {
            return 0;
        }
        triples.takeOut(s, p, o);
        findings.current = false;
        return 1;
    }

    public int shape(int path) {
        if (path < NO_PATH || path >= 2 * PREDICATES) {
            return BAD;
        }
        if (shapes.number >= MAX_SHAPES) {
            return FULL;
        }
        findings.current = false;
        return shapes.add(path);
    }

    public int severity(int shape, int severity) {
        if (!shapes.has(shape) || !isBetween(severity, 0, SEVERITIES - 1)) {
            return BAD;
        }
        if (shapes.severityOf(shape) == severity) {
            return 0;
        }
        shapes.severity[shape] = severity;
        return 1;
    }

    public int target(int shape, int kind, int a) {
        if (!shapes.has(shape) || !isTarget(kind, a)) {
            return BAD;
        }
        if (targets.number >= MAX_TARGETS) {
            return FULL;
        }
        targets.add(shape, kind, a);
        findings.current = false;
        return targets.number;
    }

    public int constraint(int shape, int kind, int a, int b) {
        if (!shapes.has(shape) || !isConstraint(kind, a, b)) {
            return BAD;
        }
        boolean aIsShape = namesShapeByA(kind);
        boolean bIsShape = namesShapeByB(kind);
        if ((aIsShape && shapes.leads(a, shape)) || (bIsShape && shapes.leads(b, shape))) {
            return NO;
        }
        if (constraints.number >= MAX_CONSTRAINTS) {
            return FULL;
        }
        if (aIsShape) {
            shapes.join(shape, a);
        }
        if (bIsShape) {
            shapes.join(shape, b);
        }
        findings.current = false;
        return constraints.add(shape, kind, a, b);
    }

    public int run() {
        findings.workOut();
        return findings.number > MAX_RESULTS ? LARGE : findings.number;
    }

    public int result(int i, int what) {
        if (!isBetween(what, 0, 3)) {
            return BAD;
        }
        findings.workOut();
        if (findings.number > MAX_RESULTS) {
            return LARGE;
        }
        if (i < 0 || i >= findings.number) {
            return NO;
        }
        switch (what) {
            case 0:
                return findings.focusOf[i];
            case 1:
                return findings.shapeOf[i];
            case 2:
                return findings.constraintOf[i];
            default:
                return findings.valueOf[i];
        }
    }

    public int worst(int severity) {
        if (!isBetween(severity, 0, SEVERITIES - 1)) {
            return BAD;
        }
        findings.workOut();
        if (findings.number > MAX_RESULTS) {
            return LARGE;
        }
        int many = 0;
        for (int i = 0; i < findings.number; i++) {
            if (shapes.severityOf(findings.shapeOf[i]) == severity) {
                many++;
            }
        }
        return many;
    }

    public int fits(int term, int shape) {
        if (!isTerm(term) || !shapes.has(shape)) {
            return BAD;
        }
        findings.workOut();
        return holdsBit(findings.fittingTerms(shape), term) ? 1 : 0;
    }

    public int focus(int shape, int i) {
        if (!shapes.has(shape)) {
            return BAD;
        }
        return termAt(targets.termsOf(shape, triples), i);
    }

    public int value(int term, int shape, int i) {
        if (!isTerm(term) || !shapes.has(shape)) {
            return BAD;
        }
        return termAt(triples.byPath(term, shapes.pathOf(shape)), i);
    }

    public int isOf(int term, int class0) {
        if (!isTerm(term) || !isNode(class0)) {
            return BAD;
        }
        return holdsBit(triples.ofClass(class0), term) ? 1 : 0;
    }

    public int count(int what) {
        switch (what) {
            case 0:
                return triples.number;
            case 1:
                return shapes.number;
            case 2:
                return targets.number;
            case 3:
                return constraints.number;
            default:
                return BAD;
        }
    }

    private static boolean isTarget(int kind, int a) {
        switch (kind) {
            case FOR_TERM:
                return isTerm(a);
            case FOR_CLASS:
                return isNode(a);
            case FOR_LEADING:
            case FOR_LED_TO:
                return isPredicate(a);
            default:
                return false;
        }
    }

    private boolean isConstraint(int kind, int a, int b) {
        if (namesShapeByA(kind) && !shapes.has(a)) {
            return false;
        }
        if (namesShapeByB(kind) && !shapes.has(b)) {
            return false;
        }
        switch (kind) {
            case OF_CLASS:
                return isNode(a);
            case OF_SORT:
                return isBetween(a, 0, 3);
            case HOW_MANY:
                return a >= 0 && b >= 0;
            case HAS_TERM:
                return isTerm(a);
            case SAME_AS:
            case NONE_OF:
            case LESS_THAN:
                return isPredicate(a);
            case HOW_MANY_FIT:
                return isBetween(b, 0, 255);
            default:
                return isBetween(kind, 0, CONSTRAINT_KINDS - 1);
        }
    }

    private static boolean namesShapeByA(int kind) {
        return isBetween(kind, NONE_FITS, HOW_MANY_FIT);
    }

    private static boolean namesShapeByB(int kind) {
        return isBetween(kind, FITS_BOTH, FITS_JUST_ONE);
    }

    private static boolean isBetween(int x, int least, int most) {
        return x >= least && x <= most;
    }

    private static boolean isTerm(int x) {
        return x >= 0 && x < TERMS;
    }

    private static boolean isNode(int x) {
        return x >= 0 && x < NODES;
    }

    private static boolean isPredicate(int x) {
        return x >= 0 && x < PREDICATES;
    }

    private static boolean isTriple(int s, int p, int o) {
        return isNode(s) && isPredicate(p) && isTerm(o);
    }

    private static boolean holdsBit(int bits, int x) {
        return ((bits >>> x) & 1) != 0;
    }

    /** The i-th term of a set, by numbers; NO when the set has not so many. */
    private static int termAt(int terms, int i) {
        int left = i;
        for (int t = 0; t < TERMS; t++) {
            if (holdsBit(terms, t)) {
                if (left == 0) {
                    return t;
                }
                left--;
            }
        }
        return NO;
    }

    private static int literalsWithNumber(int n) {
        return 3 << (NODES + 2 * n);
    }

    private static int literalsBetween(int least, int most) {
        int terms = 0;
        for (int n = 0; n < NUMBERS; n++) {
            if (isBetween(n, least, most)) {
                terms |= literalsWithNumber(n);
            }
        }
        return terms;
    }

    /** The literals whose number is smaller than that of each of the given terms, which must all be literals. */
    private static int literalsSmallerThanAll(int terms) {
        if ((terms & ALL_NODES) != 0) {
            return 0;
        }
        int smaller = 0;
        for (int n = 0; n < NUMBERS; n++) {
            if ((terms & literalsWithNumber(n)) != 0) {
                return smaller;
            }
            smaller |= literalsWithNumber(n);
        }
        return smaller;
    }

    /** The least of the terms alone when they are two or more, else none. */
    private static int leastOfTwoOrMore(int terms) {
        return Integer.bitCount(terms) < 2 ? 0 : terms & -terms;
    }

    private static int termsOfSort(int sort) {
        switch (sort) {
            case 0:
                return ALL_NODES;
            case 1:
                return ALL_LITERALS;
            case 2:
                return TAG_0_LITERALS;
            default:
                return TAG_1_LITERALS;
        }
    }

    /** The triples, by where they lead from and by where they lead to. */
    private static final class Triples {
        private final int[] ahead = new int[NODES * PREDICATES];
        private final int[] back = new int[TERMS * PREDICATES];
        private int number;

        private boolean has(int s, int p, int o) {
            return holdsBit(termsAhead(s, p), o);
        }

        private void put(int s, int p, int o) {
            if (isTriple(s, p, o)) {
                ahead[s * PREDICATES + p] |= 1 << o;
                back[o * PREDICATES + p] |= 1 << s;
                number++;
            }
        }

        private void takeOut(int s, int p, int o) {
            if (isTriple(s, p, o)) {
                ahead[s * PREDICATES + p] &= ~(1 << o);
                back[o * PREDICATES + p] &= ~(1 << s);
                number--;
            }
        }

        private int termsAhead(int x, int p) {
            return isNode(x) && isPredicate(p) ? ahead[x * PREDICATES + p] : 0;
        }

        private int termsBack(int x, int p) {
            return isTerm(x) && isPredicate(p) ? back[x * PREDICATES + p] : 0;
        }

        private int byPath(int x, int path) {
            if (path == NO_PATH) {
                return 1 << x;
            }
            return path < PREDICATES ? termsAhead(x, path) : termsBack(x, path - PREDICATES);
        }

        // The two loops below call nothing, as they stand at the end of the longest chains of calls.

        private int termsLedTo(int p) {
            int terms = 0;
            for (int x = 0; x < NODES && p >= 0 && p < PREDICATES; x++) {
                terms |= ahead[x * PREDICATES + p];
            }
            return terms;
        }

        private int termsBackOfAny(int terms, int p) {
            int nodes = 0;
            for (int x = 0; x < TERMS && p >= 0 && p < PREDICATES; x++) {
                if (((terms >>> x) & 1) != 0) {
                    nodes |= back[x * PREDICATES + p];
                }
            }
            return nodes;
        }

        /** The terms that the nodes lead to by a predicate that is not among those allowed. */
        private int termsAheadBut(int nodes, int allowed) {
            int terms = 0;
            for (int x = 0; x < NODES; x++) {
                if (holdsBit(nodes, x)) {
                    for (int p = 0; p < PREDICATES; p++) {
                        terms |= holdsBit(allowed, p) ? 0 : ahead[x * PREDICATES + p];
                    }
                }
            }
            return terms;
        }

        private int ofClass(int class0) {
            int classes = 1 << class0;
            // Each round but the last finds a node more, so there are no more rounds than nodes.
            for (int round = 0; round < NODES; round++) {
                int more = classes | termsBackOfAny(classes, BELOW);
                if (more == classes) {
                    break;
                }
                classes = more;
            }
            return termsBackOfAny(classes, TYPE);
        }
    }

    private static final class Shapes {
        private final int[] path = new int[MAX_SHAPES];
        private final int[] severity = new int[MAX_SHAPES];
        /** For each shape all shapes that it leads to, by one step or more. */
        private final int[] further = new int[MAX_SHAPES];
        private int number;

        private boolean has(int shape) {
            return shape >= 0 && shape < number;
        }

        private int add(int newPath) {
            int shape = number;
            if (shape < MAX_SHAPES) {
                path[shape] = newPath;
                severity[shape] = FIRST_SEVERITY;
                number++;
            }
            return shape;
        }

        private int pathOf(int shape) {
            return has(shape) ? path[shape] : NO_PATH;
        }

        private int severityOf(int shape) {
            return has(shape) ? severity[shape] : FIRST_SEVERITY;
        }

        private boolean leads(int from, int to) {
            return from == to || (has(from) && holdsBit(further[from], to));
        }

        private void join(int from, int to) {
            if (!has(to)) {
                return;
            }
            int gained = further[to] | (1 << to);
            for (int shape = 0; shape < number; shape++) {
                if (leads(shape, from)) {
                    further[shape] |= gained;
                }
            }
        }

        /** Higher than that of every shape it leads to: it leads to all that they do, and to them. */
        private int height(int shape) {
            return has(shape) ? Integer.bitCount(further[shape]) : 0;
        }
    }

    private static final class Targets {
        private final int[] shapeOf = new int[MAX_TARGETS];
        private final int[] kind = new int[MAX_TARGETS];
        private final int[] a = new int[MAX_TARGETS];
        private int number;

        private void add(int shape, int newKind, int newA) {
            if (number < MAX_TARGETS) {
                shapeOf[number] = shape;
                kind[number] = newKind;
                a[number] = newA;
                number++;
            }
        }

        private int termsOf(int shape, Triples triples) {
            int terms = 0;
            for (int i = 0; i < number; i++) {
                if (shapeOf[i] == shape) {
                    terms |= termsAimedAt(kind[i], a[i], triples);
                }
            }
            return terms;
        }

        private static int termsAimedAt(int kind, int a, Triples triples) {
            switch (kind) {
                case FOR_TERM:
                    return 1 << a;
                case FOR_CLASS:
                    return triples.ofClass(a);
                case FOR_LEADING:
                    return triples.termsBackOfAny(ALL_TERMS, a);
                default:
                    return triples.termsLedTo(a);
            }
        }
    }

    private static final class Constraints {
        private final int[] shapeOf = new int[MAX_CONSTRAINTS];
        private final int[] kind = new int[MAX_CONSTRAINTS];
        private final int[] a = new int[MAX_CONSTRAINTS];
        private final int[] b = new int[MAX_CONSTRAINTS];
        private int number;

        private int add(int shape, int newKind, int newA, int newB) {
            int constraint = number;
            if (constraint < MAX_CONSTRAINTS) {
                shapeOf[constraint] = shape;
                kind[constraint] = newKind;
                a[constraint] = newA;
                b[constraint] = newB;
                number++;
            }
            return constraint;
        }
    }

    /** All that follows from triples, shapes, targets and constraints; worked out anew after one of them has changed. */
    private static final class Findings {
        private final Triples triples;
        private final Shapes shapes;
        private final Targets targets;
        private final Constraints constraints;
        /** For each term and constraint the values of its results: bit v + 1 for value v, bit 0 for none. */
        private final long[] faults = new long[TERMS * MAX_CONSTRAINTS];
        private final int[] fitting = new int[MAX_SHAPES];
        /** For each shape the terms whose results are told, be it a target or a constraint that asks for them. */
        private final int[] asked = new int[MAX_SHAPES];
        private final int[] focusOf = new int[MAX_RESULTS];
        private final int[] shapeOf = new int[MAX_RESULTS];
        private final int[] constraintOf = new int[MAX_RESULTS];
        private final int[] valueOf = new int[MAX_RESULTS];
        /** Goes on beyond the rows, so that it shows when there are too many. */
        private int number;
        private boolean current;

        private Findings(Triples triples, Shapes shapes, Targets targets, Constraints constraints) {
            this.triples = triples;
            this.shapes = shapes;
            this.targets = targets;
            this.constraints = constraints;
        }

        private void workOut() {
            if (current) {
                return;
            }
            weighAll();
            askAll();
            tellAll();
            current = true;
        }

        /** From low to high, as a shape's constraints look at what fits the shapes that it leads to. */
        private void weighAll() {
            for (int shape = 0; shape < shapes.number; shape++) {
                fitting[shape] = ALL_TERMS;
            }
            for (int height = 0; height < MAX_SHAPES; height++) {
                for (int c = 0; c < constraints.number; c++) {
                    if (shapes.height(constraints.shapeOf[c]) == height) {
                        weighConstraint(c, constraints.shapeOf[c]);
                    }
                }
            }
        }

        private void weighConstraint(int c, int shape) {
            if (!shapes.has(shape)) {
                return;
            }
            int good = goodValues(c);
            for (int x = 0; x < TERMS; x++) {
                long found = faultsOf(c, x, triples.byPath(x, shapes.path[shape]), good);
                faults[x * MAX_CONSTRAINTS + c] = found;
                if (found != 0L) {
                    fitting[shape] &= ~(1 << x);
                }
            }
        }

        /** For kinds that ask something of each value, whosever value it is: the terms that are as told. */
        private int goodValues(int c) {
            int a = constraints.a[c];
            int b = constraints.b[c];
            switch (constraints.kind[c]) {
                case OF_CLASS:
                    return triples.ofClass(a);
                case OF_SORT:
                    return termsOfSort(a);
                case NUMBER_BETWEEN:
                    return literalsBetween(a, b);
                case ONE_OF:
                    return a;
                case NONE_FITS:
                    return ~fittingTerms(a);
                case FITS_BOTH:
                    return fittingTerms(a) & fittingTerms(b);
                case FITS_EITHER:
                    return fittingTerms(a) | fittingTerms(b);
                case FITS_JUST_ONE:
                    return fittingTerms(a) ^ fittingTerms(b);
                case ALL_FIT:
                case TOLD_BY_SHAPE:
                case HOW_MANY_FIT:
                    return fittingTerms(a);
                default:
                    return ALL_TERMS;
            }
        }

        private int fittingTerms(int shape) {
            return shapes.has(shape) ? fitting[shape] : 0;
        }

        private long faultsOf(int c, int x, int values, int good) {
            int a = constraints.a[c];
            int b = constraints.b[c];
            switch (constraints.kind[c]) {
                case HOW_MANY:
                    return unless(isBetween(Integer.bitCount(values), a, b));
                case HAS_TERM:
                    return unless(holdsBit(values, a));
                case HOW_MANY_FIT:
                    return unless(isBetween(Integer.bitCount(values & good), b >> 4, b & 15));
                case SAME_AS:
                    return withValues(values ^ triples.termsAhead(x, a));
                case NONE_OF:
                    return withValues(values & triples.termsAhead(x, a));
                case LESS_THAN:
                    return withValues(values & ~literalsSmallerThanAll(triples.termsAhead(x, a)));
                case ONE_A_TAG:
                    return withValues(leastOfTwoOrMore(values & TAG_0_LITERALS)
                            | leastOfTwoOrMore(values & TAG_1_LITERALS));
                case CLOSED:
                    return withValues(triples.termsAheadBut(values & ALL_NODES, a));
                default:
                    return withValues(values & ~good);
            }
        }

        private static long unless(boolean holds) {
            return holds ? 0L : WITHOUT_VALUE;
        }

        private static long withValues(int terms) {
            return (terms & 0xFFFFFFFFL) << 1;
        }

        /** From high to low, as a shape hands on what it was asked to the shapes that it leads to. */
        private void askAll() {
            for (int shape = 0; shape < shapes.number; shape++) {
                asked[shape] = targets.termsOf(shape, triples);
            }
            for (int height = MAX_SHAPES - 1; height >= 0; height--) {
                for (int c = 0; c < constraints.number; c++) {
                    if (constraints.kind[c] == TOLD_BY_SHAPE && shapes.height(constraints.shapeOf[c]) == height) {
                        handOn(c);
                    }
                }
            }
        }

        private void handOn(int c) {
            int from = constraints.shapeOf[c];
            int to = constraints.a[c];
            if (!shapes.has(from) || !shapes.has(to)) {
                return;
            }
            for (int x = 0; x < TERMS; x++) {
                if (holdsBit(asked[from], x)) {
                    asked[to] |= (int) (faults[x * MAX_CONSTRAINTS + c] >>> 1);
                }
            }
        }

        private void tellAll() {
            number = 0;
            for (int focus = 0; focus < TERMS; focus++) {
                for (int shape = 0; shape < shapes.number; shape++) {
                    if (holdsBit(asked[shape], focus)) {
                        tellShape(focus, shape);
                    }
                }
            }
        }

        private void tellShape(int focus, int shape) {
            for (int c = 0; c < constraints.number; c++) {
                if (constraints.shapeOf[c] == shape && constraints.kind[c] != TOLD_BY_SHAPE) {
                    tellConstraint(focus, shape, c);
                }
            }
        }

        private void tellConstraint(int focus, int shape, int c) {
            long found = faults[focus * MAX_CONSTRAINTS + c];
            if (found == 0L) {
                return;
            }
            for (int value = -1; value < TERMS; value++) {
                if (((found >>> (value + 1)) & 1L) != 0L) {
                    tell(focus, shape, c, value);
                }
            }
        }

        private void tell(int focus, int shape, int c, int value) {
            if (number < MAX_RESULTS) {
                focusOf[number] = focus;
                shapeOf[number] = shape;
                constraintOf[number] = c;
                valueOf[number] = value;
            }
            number++;
        }
    }
}
