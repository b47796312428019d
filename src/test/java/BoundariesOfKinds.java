/** The section "Terms": what each kind of constraint asks, at its edges; told by promises 8 (run), 9 and 11 (fits). */
final class BoundariesOfKinds {
    private static final int LEAST = Integer.MIN_VALUE;
    private static final int MOST = Integer.MAX_VALUE;
    private static final int[] NONE = {};
    private static final int[] EDGES = {0, 19, 20, 21, 30, 31};

    private final Due due;

    BoundariesOfKinds(Due due) {
        this.due = due;
    }

    void all() {
        withoutValues();
        classes();
        sorts();
        howMany();
        howManyOfAll32();
        numbers();
        bits();
        oneTerm();
        justThose();
        noneOfThose();
        greaterNumbers();
        greaterThanAllOfThem();
        oneATag();
        closedPredicates();
        closedNodes();
        noneFits();
        fitsBoth();
        fitsEither();
        fitsJustOne();
        eachFits();
        toldByThatShape();
        toldOfTheFirstAndLastTerm();
        toldThroughAllTwelve();
        toldByThatShapeForFittingOnes();
        howManyFit();
        more15Fit();
        shapesWithoutConstraints();
        valuesOfTheirOwn();
    }

    /** With no values nothing is asked of one, but for kinds 2, 5 and 17, and 6 when x leads somewhere. */
    private void withoutValues() {
        due.sentence(11, "A term FITS a shape when it holds to all constraints of the shape. (no values)");
        for (int kind = 0; kind < 18; kind++) {
            for (int term : new int[] {0, 31}) {
                ShaclSteps x = Made.withShapes(2, 2);
                x.constraint(1, 2, 1, 1);
                x.constraint(0, kind, 1, 1);
                boolean asksForOne = kind == 2 || kind == 5;
                due.is("kind " + kind + ", term " + term, x.fits(term, 0), asksForOne ? 0 : 1);
            }
        }
        ShaclSteps x = Made.withValues();
        x.shape(2);
        x.constraint(0, 17, 1, 0x11);
        due.faults("one that fits is asked for", x, 0, -1);
    }

    private void classes() {
        due.sentence(8, "0 each is of class a.");
        ShaclSteps x = Made.withValues(EDGES);
        x.triple(0, 0, 5);
        x.triple(19, 0, 6);
        x.triple(6, 1, 19);
        x.constraint(0, 0, 19, 0);
        due.faults("class 19, one BELOW", x, 0, 0, 20, 21, 30, 31);
        ShaclSteps y = Made.withValues(EDGES);
        y.triple(0, 0, 0);
        y.triple(19, 0, 1);
        y.constraint(0, 0, 0, 0);
        due.faults("class 0, without BELOW", y, 0, 19, 20, 21, 30, 31);
    }

    private void sorts() {
        due.sentence(8, "1 each is a node (a = 0), a literal (1), one with TAG 0 (2), with TAG 1 (3).");
        due.oneConstraint("nodes end at 19", 1, 0, 0, EDGES, 20, 21, 30, 31);
        due.oneConstraint("literals begin at 20", 1, 1, 0, EDGES, 0, 19);
        due.oneConstraint("TAG 0", 1, 2, 0, EDGES, 0, 19, 21, 31);
        due.oneConstraint("TAG 1", 1, 3, 0, EDGES, 0, 19, 20, 30);
        for (int term = 20; term < 32; term++) {
            ShaclSteps x = Made.withShapes(2, -1);
            x.constraint(0, 1, 2, 0);
            x.constraint(1, 1, 3, 0);
            due.is("TAG 0 of " + term, x.fits(term, 0), term % 2 == 0 ? 1 : 0);
            due.is("TAG 1 of " + term, x.fits(term, 1), term % 2 == 1 ? 1 : 0);
        }
    }

    private void howMany() {
        due.sentence(8, "2 there are from a to b.");
        int[][] values = {{}, {31}, {0, 31}, {0, 20, 31}};
        int[][] bounds = {{0, 0}, {0, 1}, {1, 1}, {1, 2}, {2, 2}, {3, 3}, {2, 1}, {0, MOST}, {MOST, MOST}, {MOST, 0}};
        for (int[] some : values) {
            for (int[] bound : bounds) {
                boolean holds = some.length >= bound[0] && some.length <= bound[1];
                due.oneConstraint(some.length + " for " + bound[0] + " to " + bound[1],
                        2, bound[0], bound[1], some, holds ? NONE : new int[] {-1});
            }
        }
    }

    private void howManyOfAll32() {
        due.sentence(8, "2 there are from a to b. (all 32 terms)");
        int[] all = new int[32];
        for (int i = 0; i < 32; i++) {
            all[i] = i;
        }
        due.oneConstraint("32 to 32", 2, 32, 32, all);
        due.oneConstraint("0 to 31", 2, 0, 31, all, -1);
        due.oneConstraint("33 to 40", 2, 33, 40, all, -1);
        ShaclSteps x = Made.withShapes(1, -1);
        x.target(0, 0, 31);
        x.constraint(0, 2, 1, 1);
        due.is("without a path just one", x.run(), 0);
    }

    private void numbers() {
        due.sentence(8, "3 each is a literal with a NUMBER from a to b.");
        due.oneConstraint("0 to 0", 3, 0, 0, EDGES, 0, 19, 30, 31);
        due.oneConstraint("5 to 5", 3, 5, 5, EDGES, 0, 19, 20, 21);
        due.oneConstraint("0 to 5", 3, 0, 5, EDGES, 0, 19);
        due.oneConstraint("1 to 4", 3, 1, 4, EDGES, EDGES);
        due.oneConstraint("5 to 0", 3, 5, 0, EDGES, EDGES);
        due.oneConstraint("-1 to 0", 3, -1, 0, EDGES, 0, 19, 30, 31);
        due.oneConstraint("5 to 6", 3, 5, 6, EDGES, 0, 19, 20, 21);
        due.oneConstraint("all that there are", 3, LEAST, MOST, EDGES, 0, 19);
        due.oneConstraint("below them", 3, LEAST, -1, EDGES, EDGES);
        due.oneConstraint("above them", 3, 6, MOST, EDGES, EDGES);
        for (int term = 20; term < 32; term++) {
            ShaclSteps x = Made.withShapes(1, -1);
            int number = (term - 20) / 2;
            x.constraint(0, 3, number, number);
            due.is("number of " + term, x.fits(term, 0), 1);
            due.is("number of the one two on", term + 2 < 32 ? x.fits(term + 2, 0) : 0, 0);
            due.is("number of the one two back", x.fits(term - 2, 0), 0);
        }
    }

    private void bits() {
        due.sentence(8, "4 each is one of the terms that a has as bits.");
        due.oneConstraint("none", 4, 0, 0, EDGES, EDGES);
        due.oneConstraint("all", 4, -1, 0, EDGES);
        due.oneConstraint("bit 0", 4, 1, 0, EDGES, 19, 20, 21, 30, 31);
        due.oneConstraint("bit 31", 4, LEAST, 0, EDGES, 0, 19, 20, 21, 30);
        due.oneConstraint("all but bit 31", 4, MOST, 0, EDGES, 31);
        due.oneConstraint("all but bit 0", 4, -2, 0, EDGES, 0);
        due.oneConstraint("nodes", 4, (1 << 20) - 1, 0, EDGES, 20, 21, 30, 31);
    }

    private void oneTerm() {
        due.sentence(8, "5 term a is one of them.");
        due.oneConstraint("31 of one", 5, 31, 0, new int[] {31});
        due.oneConstraint("0 of one", 5, 0, 0, new int[] {0});
        due.oneConstraint("31 of others", 5, 31, 0, new int[] {0, 30}, -1);
        due.oneConstraint("0 of others", 5, 0, 0, new int[] {1, 31}, -1);
        due.oneConstraint("0 of none", 5, 0, 0, NONE, -1);
    }

    private void justThose() {
        due.sentence(9, "6: one with each term that is a value or led to, but not both.");
        due.oneConstraint("nothing led to", 6, 3, 0, new int[] {0, 31}, 0, 31);
        ShaclSteps x = Made.withValues();
        x.constraint(0, 6, 3, 0);
        due.faults("neither", x, 0);
        x.triple(0, 3, 0);
        x.triple(0, 3, 31);
        due.faults("no values", x, 0, 0, 31);
        x.triple(0, 2, 31);
        x.triple(0, 2, 30);
        due.faults("both and but one", x, 0, 0, 30);
        due.oneConstraint("the path itself", 6, 2, 0, EDGES);
        ShaclSteps y = Made.withShapes(1, -1);
        y.target(0, 0, 31);
        y.constraint(0, 6, 0, 0);
        due.results("a literal leads to nothing", y, new int[][] {{31, 0, 0, 31}});
    }

    private void noneOfThose() {
        due.sentence(8, "7 none is one that x leads to by a.");
        due.oneConstraint("nothing led to", 7, 3, 0, EDGES);
        due.oneConstraint("the path itself", 7, 2, 0, EDGES, EDGES);
        ShaclSteps x = Made.withValues(EDGES);
        x.triple(0, 7, 0);
        x.triple(0, 7, 31);
        x.triple(0, 7, 29);
        x.triple(19, 7, 19);
        x.constraint(0, 7, 7, 0);
        due.faults("by predicate 7", x, 0, 0, 31);
    }

    private void greaterNumbers() {
        due.sentence(8, "8 each is a literal, and all that x leads to by a are literals with a greater NUMBER.");
        for (int value = 20; value < 32; value++) {
            for (int other = 20; other < 32; other++) {
                ShaclSteps x = Made.withValues(value);
                x.triple(0, 3, other);
                x.constraint(0, 8, 3, 0);
                boolean greater = (other - 20) / 2 > (value - 20) / 2;
                due.faults(value + " before " + other, x, 0, greater ? NONE : new int[] {value});
            }
        }
    }

    private void greaterThanAllOfThem() {
        due.sentence(8, "8 each is a literal, and all that x leads to by a are literals with a greater NUMBER. (none, nodes)");
        due.oneConstraint("nothing led to", 8, 3, 0, EDGES, 0, 19);
        ShaclSteps x = Made.withValues(EDGES);
        x.constraint(0, 8, 3, 0);
        x.triple(0, 3, 31);
        due.faults("5 led to", x, 0, 0, 19, 30, 31);
        x.triple(0, 3, 22);
        due.faults("5 and 1 led to", x, 0, 0, 19, 30, 31);
        x.triple(0, 3, 19);
        due.faults("a node led to as well", x, 0, EDGES);
    }

    private void oneATag() {
        due.sentence(9, "9: for each TAG that two literals have one with the least of these.");
        due.oneConstraint("one of each", 9, 0, 0, new int[] {30, 31});
        due.oneConstraint("nodes have none", 9, 0, 0, new int[] {0, 2, 18, 20, 21});
        due.oneConstraint("first and last with TAG 0", 9, 0, 0, new int[] {20, 30, 31}, 20);
        due.oneConstraint("first and last with TAG 1", 9, 0, 0, new int[] {20, 21, 31}, 21);
        due.oneConstraint("the last two with TAG 0", 9, 0, 0, new int[] {28, 30}, 28);
        due.oneConstraint("the last two with TAG 1", 9, 0, 0, new int[] {29, 31}, 29);
        due.oneConstraint("all literals", 9, 0, 0, new int[] {20, 21, 22, 23, 24, 25, 26, 27, 28, 29, 30, 31}, 20, 21);
    }

    private void closedPredicates() {
        due.sentence(8, "10 from each that is a node no predicate leads to any term, but for those that a has as bits.");
        for (int p = 0; p < 8; p++) {
            ShaclSteps open = Made.withValues(19);
            open.triple(19, p, 31);
            open.constraint(0, 10, 1 << p, 0);
            due.faults("just predicate " + p, open, 0);
            ShaclSteps closed = Made.withValues(19);
            closed.triple(19, p, 31);
            closed.constraint(0, 10, ~(1 << p), 0);
            due.faults("all but predicate " + p, closed, 0, 31);
        }
        ShaclSteps x = Made.withValues(19);
        x.triple(19, 0, 30);
        x.triple(19, 7, 31);
        x.constraint(0, 10, 0x7FFFFF00, 0);
        due.faults("bits beyond the predicates", x, 0, 30, 31);
    }

    private void closedNodes() {
        due.sentence(9, "10: one with each term that is led to so.");
        ShaclSteps x = Made.withShapes(1, -1);
        x.constraint(0, 10, 0, 0);
        x.target(0, 0, 0);
        x.target(0, 0, 19);
        x.target(0, 0, 20);
        due.results("from nothing no predicate leads", x);
        x.triple(0, 0, 31);
        x.triple(0, 7, 31);
        x.triple(0, 7, 0);
        x.triple(19, 7, 20);
        x.triple(18, 7, 20);
        due.results("each term once", x,
                new int[][] {{0, 0, 0, 0}, {0, 0, 0, 31}, {19, 0, 0, 20}});
        ShaclSteps two = Made.withValues(1, 2);
        two.triple(1, 3, 31);
        two.triple(2, 4, 31);
        two.constraint(0, 10, 0, 0);
        due.faults("one term from two values", two, 0, 31);
    }

    /** Node 0 has the values 0, 20, 21 and 31; 20 and 21 fit shape 1, 0 and 20 fit shape 2, 31 neither. */
    private static ShaclSteps withTwoShapes(int kind, int a, int b) {
        ShaclSteps x = Made.withValues(0, 20, 21, 31);
        x.shape(-1);
        x.shape(-1);
        x.constraint(1, 4, 1 << 20 | 1 << 21, 0);
        x.constraint(2, 4, 1 << 20 | 1, 0);
        x.constraint(0, kind, a, b);
        return x;
    }

    private void noneFits() {
        due.sentence(8, "11 none FITS shape a.");
        due.faults("b is not asked", withTwoShapes(11, 1, LEAST), 2, 20, 21);
        due.faults("the other shape", withTwoShapes(11, 2, MOST), 2, 0, 20);
    }

    private void fitsBoth() {
        due.sentence(8, "12 each fits shapes a and b.");
        due.faults("two shapes", withTwoShapes(12, 1, 2), 2, 0, 21, 31);
        due.faults("the other way round", withTwoShapes(12, 2, 1), 2, 0, 21, 31);
        due.faults("one shape twice", withTwoShapes(12, 1, 1), 2, 0, 31);
    }

    private void fitsEither() {
        due.sentence(8, "13 each fits a or b.");
        due.faults("two shapes", withTwoShapes(13, 1, 2), 2, 31);
        due.faults("the other way round", withTwoShapes(13, 2, 1), 2, 31);
        due.faults("one shape twice", withTwoShapes(13, 2, 2), 2, 21, 31);
    }

    private void fitsJustOne() {
        due.sentence(8, "14 each fits one of a and b alone.");
        due.faults("two shapes", withTwoShapes(14, 1, 2), 2, 20, 31);
        due.faults("the other way round", withTwoShapes(14, 2, 1), 2, 20, 31);
        due.faults("one shape twice", withTwoShapes(14, 1, 1), 2, 0, 20, 21, 31);
    }

    private void eachFits() {
        due.sentence(8, "15 each fits shape a.");
        due.faults("b is not asked", withTwoShapes(15, 1, LEAST), 2, 0, 31);
        due.faults("the other shape", withTwoShapes(15, 2, MOST), 2, 21, 31);
    }

    private void toldByThatShape() {
        due.sentence(9, "16: all results of shape a for each value (with that as FOCUS).");
        due.results("each value that does not fit", withTwoShapes(16, 1, LEAST),
                new int[][] {{0, 1, 0, 0}, {31, 1, 0, 31}});
        ShaclSteps x = withTwoShapes(16, 2, MOST);
        due.results("the other shape", x, new int[][] {{21, 2, 1, 21}, {31, 2, 1, 31}});
        due.is("the term itself does not fit", x.fits(0, 0), 0);
        x.constraint(2, 5, 21, 0);
        due.results("all results of it", x, new int[][] {
            {0, 2, 3, -1}, {20, 2, 3, -1}, {21, 2, 1, 21}, {31, 2, 1, 31}, {31, 2, 3, -1}});
    }

    private void toldOfTheFirstAndLastTerm() {
        due.sentence(9, "16: all results of shape a for each value (with that as FOCUS). (terms 0 and 31)");
        ShaclSteps x = Made.withShapes(2, -1);
        x.constraint(0, 16, 1, 0);
        x.constraint(1, 4, 0, 0);
        x.target(0, 0, 31);
        due.results("term 31", x, new int[][] {{31, 1, 1, 31}});
        x.target(0, 0, 0);
        due.results("term 0 too", x, new int[][] {{0, 1, 1, 0}, {31, 1, 1, 31}});
    }

    private void toldThroughAllTwelve() {
        due.sentence(8, "16 each fits shape a, and what does not is told by that shape. (through all twelve)");
        for (int turn = 0; turn < 2; turn++) {
            ShaclSteps x = Made.withShapes(12, -1);
            int last = turn == 0 ? 0 : 11;
            int step = turn == 0 ? 1 : -1;
            for (int i = 0; i < 11; i++) {
                x.constraint(last + step * (i + 1), 16, last + step * i, 0);
            }
            x.constraint(last, 1, 1, 0);
            x.target(last + step * 11, 0, 19);
            x.target(last + step * 11, 0, 20);
            due.results("told by shape " + last, x, new int[][] {{19, last, 11, 19}});
            due.is("nor does it fit the first", x.fits(19, last + step * 11), 0);
            due.is("but this one does", x.fits(20, last + step * 11), 1);
        }
    }

    private void toldByThatShapeForFittingOnes() {
        due.sentence(8, "16 each fits shape a, and what does not is told by that shape. (all fit)");
        ShaclSteps x = Made.withValues(20, 31);
        x.shape(-1);
        x.constraint(1, 1, 1, 0);
        x.constraint(0, 16, 1, 0);
        due.faults("nothing is told", x, 1);
    }

    private void howManyFit() {
        due.sentence(8, "17 those that fit shape a are from b / 16 to b % 16 many.");
        for (int b = 0; b < 256; b++) {
            ShaclSteps x = withTwoShapes(17, 1, b);
            boolean holds = 2 >= b / 16 && 2 <= b % 16;
            due.faults("two fit, b = " + b, x, 2, holds ? NONE : new int[] {-1});
        }
    }

    private void more15Fit() {
        due.sentence(8, "17 those that fit shape a are from b / 16 to b % 16 many. (15 and 16 of them)");
        int[] fifteen = new int[15];
        for (int i = 0; i < 15; i++) {
            fifteen[i] = i;
        }
        ShaclSteps x = Made.withValues(fifteen);
        x.shape(-1);
        x.constraint(0, 17, 1, 255);
        due.faults("fifteen", x, 0);
        x.triple(0, 2, 31);
        due.faults("sixteen", x, 0, -1);
    }

    private void shapesWithoutConstraints() {
        due.sentence(11, "A term FITS a shape when it holds to all constraints of the shape. (none)");
        ShaclSteps x = Made.withShapes(12, -1);
        x.constraint(0, 1, 1, 0);
        for (int term = 0; term < 32; term++) {
            due.is("term " + term + ", no constraint", x.fits(term, 11), 1);
            due.is("term " + term + ", one constraint", x.fits(term, 0), term < 20 ? 0 : 1);
        }
        x.constraint(11, 11, 1, 0);
        due.is("none may fit what all fit", x.fits(31, 11), 0);
    }

    private void valuesOfTheirOwn() {
        due.sentence(8, "else the terms that it leads to by the predicate, or those that lead to it");
        ShaclSteps x = Made.withShapes(1, 10);
        x.triple(0, 2, 31);
        x.triple(19, 2, 31);
        x.target(0, 0, 31);
        x.constraint(0, 4, 1, 0);
        due.results("those that lead to a literal", x, new int[][] {{31, 0, 0, 19}});
        ShaclSteps y = Made.withShapes(1, 2);
        y.shape(10);
        y.triple(0, 2, 0);
        y.target(0, 0, 0);
        y.target(1, 0, 0);
        y.constraint(0, 1, 1, 0);
        y.constraint(1, 1, 1, 0);
        due.results("a node that leads to itself", y, new int[][] {{0, 0, 0, 0}, {0, 1, 1, 0}});
    }
}
