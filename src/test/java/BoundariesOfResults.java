/** Promises 8 to 10: how many results there are, what they are, how bad they are. */
final class BoundariesOfResults {
    private static final int BAD = -1;
    private static final int NO = -2;
    private static final int LARGE = -4;
    private static final int LEAST = Integer.MIN_VALUE;
    private static final int MOST = Integer.MAX_VALUE;

    private final Due due;

    BoundariesOfResults(Due due) {
        this.due = due;
    }

    void all() {
        noResults();
        afterEachChange();
        notMoreThan250();
        moreThan250();
        farMoreThan250();
        noLongerLarge();
        equalOnesAreOne();
        equalOnesAreOneBeforeTheyAreCounted();
        withoutAValue();
        firstAndLast();
        sorted();
        whatIsNone();
        notSoMany();
        below0();
        resultBadBeforeLargeBeforeNo();
        severityOfNone();
        worstOfNothing();
        worstOf250();
        worstBadBeforeLarge();
        worstFromNowOn();
        askingChangesNothing();
    }

    private void noResults() {
        due.sentence(8, "How many results there are. (none)");
        ShaclSteps x = new ShaclSteps();
        due.results("a new object", x);
        x.shape(-1);
        due.results("a shape", x);
        x.constraint(0, 1, 1, 0);
        due.results("for no term", x);
        x.target(0, 2, 2);
        due.results("for terms that there are not", x);
        x.triple(0, 2, 1);
        due.results("for one now", x, new int[][] {{0, 0, 0, 0}});
        ShaclSteps y = Made.withShapes(1, -1);
        y.target(0, 0, 31);
        due.results("nothing is asked", y);
    }

    private void afterEachChange() {
        due.sentence(8, "How many results there are. (at once, after each call that changes something)");
        ShaclSteps x = new ShaclSteps();
        due.results("nothing", x);
        x.shape(2);
        x.constraint(0, 2, 1, 1);
        due.results("for no term", x);
        x.target(0, 0, 19);
        due.results("a target", x, new int[][] {{19, 0, 0, -1}});
        x.triple(19, 2, 31);
        due.results("a triple comes", x);
        x.constraint(0, 1, 0, 0);
        due.results("a constraint", x, new int[][] {{19, 0, 1, 31}});
        x.drop(19, 2, 31);
        due.results("a triple goes", x, new int[][] {{19, 0, 0, -1}});
        x.shape(-1);
        due.is("a shape: all fit it", x.fits(31, 1), 1);
    }

    private void notMoreThan250() {
        due.sentence(8, "When there are more than 250: TOO LARGE. (250)");
        ShaclSteps x = Made.with250Results();
        due.is("run", x.run(), 250);
        for (int i = 0; i < 250; i += 83) {
            due.is("focus of " + i, x.result(i, 0), i / 25);
            due.is("constraint of " + i, x.result(i, 2), i / 5 % 5);
            due.is("value of " + i, x.result(i, 3), 20 + i % 5);
        }
        due.is("the last", x.result(249, 3), 24);
        due.is("no more", x.result(250, 3), NO);
    }

    private void moreThan250() {
        due.sentence(8, "When there are more than 250: TOO LARGE. (251)");
        ShaclSteps x = Made.with251Results();
        due.is("run", x.run(), LARGE);
        due.is("run again", x.run(), LARGE);
        due.is("what fits is told all the same", x.fits(31, 1), 0);
        due.is("what fits is told all the same", x.fits(0, 1), 1);
        due.foci("whom a shape is for as well", x, 1, 31);
        due.values("and values", x, 9, 0, 20, 21, 22, 23, 24);
    }

    private void farMoreThan250() {
        due.sentence(8, "When there are more than 250: TOO LARGE. (as many as can be)");
        ShaclSteps x = Made.withShapes(1, 2);
        for (int i = 0; i < 100; i++) {
            x.triple(i % 20, 2, i % 32);
        }
        for (int c = 0; c < 40; c++) {
            x.constraint(0, 4, 0, 0);
        }
        x.target(0, 2, 2);
        due.is("run", x.run(), LARGE);
        due.is("result", x.result(249, 0), LARGE);
        due.is("worst", x.worst(2), LARGE);
    }

    private void noLongerLarge() {
        due.sentence(8, "LARGE (no longer, after a drop)");
        ShaclSteps x = Made.with251Results();
        due.is("large", x.run(), LARGE);
        x.drop(0, 2, 20);
        due.is("246", x.run(), 246);
        due.is("the first", x.result(0, 3), 21);
        due.is("the last", x.result(245, 0), 31);
        due.is("no more", x.result(246, 0), NO);
        x.triple(0, 2, 20);
        due.is("large again", x.run(), LARGE);
        due.is("large again: result", x.result(0, 0), LARGE);
    }

    private void equalOnesAreOne() {
        due.sentence(8, "Equal ones are one");
        ShaclSteps x = Made.withShapes(4, -1);
        x.constraint(0, 1, 1, 0);
        x.target(0, 0, 5);
        x.target(0, 0, 5);
        x.target(0, 2, 2);
        x.triple(5, 2, 5);
        due.results("by three targets", x, new int[][] {{5, 0, 0, 5}});
        x.constraint(1, 16, 0, 0);
        x.constraint(1, 16, 0, 0);
        x.constraint(2, 16, 0, 0);
        x.constraint(3, 16, 1, 0);
        for (int shape = 1; shape < 4; shape++) {
            x.target(shape, 0, 5);
        }
        due.results("by other shapes too", x, new int[][] {{5, 0, 0, 5}});
        x.constraint(0, 1, 1, 0);
        due.results("the same asked by another constraint is another", x,
                new int[][] {{5, 0, 0, 5}, {5, 0, 5, 5}});
    }

    private void equalOnesAreOneBeforeTheyAreCounted() {
        due.sentence(8, "Equal ones are one (250 told three times are not too large)");
        ShaclSteps x = Made.with250Results();
        x.target(0, 2, 2);
        x.shape(-1);
        x.constraint(1, 16, 0, 0);
        x.constraint(1, 16, 0, 0);
        x.target(1, 2, 2);
        due.is("run", x.run(), 250);
        due.is("worst", x.worst(2), 250);
        due.is("the last", x.result(249, 3), 24);
    }

    private void withoutAValue() {
        due.sentence(9, "2, 5, 17: one without a value (-1).");
        ShaclSteps x = Made.withValues(0, 31);
        x.shape(-1);
        x.constraint(0, 2, 3, 9);
        x.constraint(0, 5, 30, 0);
        x.constraint(0, 17, 1, 0x33);
        due.results("one each, however many values", x,
                new int[][] {{0, 0, 0, -1}, {0, 0, 1, -1}, {0, 0, 2, -1}});
    }

    private void firstAndLast() {
        due.sentence(9, "its FOCUS (what = 0), shape (1), constraint (2), value (3; -1 without)");
        ShaclSteps x = Made.withShapes(12, -1);
        x.constraint(0, 4, 0, 0);
        for (int i = 1; i < 39; i++) {
            x.constraint(5, 9, 0, 0);
        }
        x.constraint(11, 4, 0, 0);
        x.target(0, 0, 0);
        x.target(11, 0, 31);
        due.results("the least and the greatest", x, new int[][] {{0, 0, 0, 0}, {31, 11, 39, 31}});
    }

    private void sorted() {
        due.sentence(9, "they are sorted by FOCUS, then shape, constraint, value");
        ShaclSteps x = Made.withShapes(1, 2);
        x.shape(-1);
        x.shape(10);
        x.constraint(2, 4, 0, 0);
        x.constraint(1, 5, 30, 0);
        x.constraint(0, 4, 0, 0);
        x.constraint(1, 4, 0, 0);
        x.constraint(0, 2, 0, 1);
        for (int shape = 2; shape >= 0; shape--) {
            x.target(shape, 0, 19);
            x.target(shape, 0, 0);
        }
        x.triple(19, 2, 31);
        x.triple(19, 2, 20);
        x.triple(19, 2, 0);
        due.results("of all sorts", x, new int[][] {
            {0, 1, 1, -1}, {0, 1, 3, 0}, {0, 2, 0, 19},
            {19, 0, 2, 0}, {19, 0, 2, 20}, {19, 0, 2, 31}, {19, 0, 4, -1}, {19, 1, 1, -1}, {19, 1, 3, 19}});
    }

    private static ShaclSteps withTwoResults() {
        ShaclSteps x = Made.withValues(20, 31);
        x.constraint(0, 1, 0, 0);
        return x;
    }

    private void whatIsNone() {
        due.sentence(9, "BAD: what is none");
        ShaclSteps x = withTwoResults();
        for (int wrong : new int[] {-1, 4, LEAST, MOST}) {
            due.is("what = " + wrong, x.result(0, wrong), BAD);
        }
        due.is("what = 0", x.result(1, 0), 0);
        due.is("what = 3", x.result(1, 3), 31);
    }

    private void notSoMany() {
        due.sentence(9, "NO: there are not so many");
        ShaclSteps x = withTwoResults();
        for (int what = 0; what < 4; what++) {
            due.is("i = 2", x.result(2, what), NO);
            due.is("i = 250", x.result(250, what), NO);
            due.is("most", x.result(MOST, what), NO);
            due.is("of none", new ShaclSteps().result(0, what), NO);
        }
        due.is("i = 1", x.result(1, 3), 31);
        due.is("i = 0", x.result(0, 3), 20);
    }

    private void below0() {
        due.sentence(9, "of an i below 0 there are not so many");
        ShaclSteps x = withTwoResults();
        for (int what = 0; what < 4; what++) {
            due.is("i = -1", x.result(-1, what), NO);
            due.is("least", x.result(LEAST, what), NO);
        }
    }

    private void resultBadBeforeLargeBeforeNo() {
        due.sentence(9, "Of several answers that a call names the first one counts (BAD, LARGE, NO)");
        ShaclSteps x = Made.with251Results();
        due.is("what and large", x.result(0, 4), BAD);
        due.is("what, large, below 0", x.result(-1, -1), BAD);
        due.is("large and below 0", x.result(-1, 0), LARGE);
        due.is("large and not so many", x.result(251, 3), LARGE);
        due.is("large", x.result(0, 0), LARGE);
        ShaclSteps y = withTwoResults();
        due.is("what and below 0", y.result(-1, 4), BAD);
        due.is("what and not so many", y.result(2, -1), BAD);
    }

    private void severityOfNone() {
        due.sentence(10, "BAD");
        ShaclSteps x = withTwoResults();
        for (int wrong : new int[] {-1, 3, LEAST, MOST}) {
            due.is("severity " + wrong, x.worst(wrong), BAD);
        }
        due.is("severity 0", x.worst(0), 0);
        due.is("severity 1", x.worst(1), 0);
        due.is("severity 2", x.worst(2), 2);
    }

    private void worstOfNothing() {
        due.sentence(10, "How many results are of shapes with a severity. (none)");
        ShaclSteps x = new ShaclSteps();
        due.is("no shapes", x.worst(2), 0);
        x.shape(-1);
        due.is("a shape without results", x.worst(2), 0);
        due.is("no shape of this severity", x.worst(0), 0);
    }

    private void worstOf250() {
        due.sentence(10, "LARGE (not of 250)");
        ShaclSteps x = Made.with250Results();
        due.is("250", x.worst(2), 250);
        due.is("none", x.worst(1), 0);
        ShaclSteps y = Made.with251Results();
        due.is("251, of which 1", y.worst(0), LARGE);
        due.is("251, of which none", y.worst(1), LARGE);
        due.is("251, of which 250", y.worst(2), LARGE);
    }

    private void worstBadBeforeLarge() {
        due.sentence(10, "Of several answers that a call names the first one counts (BAD before LARGE)");
        ShaclSteps x = Made.with251Results();
        due.is("-1", x.worst(-1), BAD);
        due.is("3", x.worst(3), BAD);
        due.is("2", x.worst(2), LARGE);
    }

    private void worstFromNowOn() {
        due.sentence(10, "How many results are of shapes with a severity. (that they have from now on)");
        ShaclSteps x = withTwoResults();
        due.is("2 at first", x.worst(2), 2);
        x.severity(0, 0);
        due.is("0 now", x.worst(0), 2);
        due.is("no longer 2", x.worst(2), 0);
        x.severity(0, 3);
        due.is("still 0", x.worst(0), 2);
    }

    private void askingChangesNothing() {
        due.sentence(8, "Nothing is promised beyond the answers and state changes described above (questions change nothing)");
        for (ShaclSteps x : new ShaclSteps[] {withTwoResults(), Made.with250Results(), Made.with251Results()}) {
            String before = Snapshot.of(x);
            due.holds("as before", Snapshot.of(x).equals(before));
            x.result(0, 4);
            x.result(-1, 0);
            x.worst(3);
            x.fits(32, 0);
            x.focus(12, 0);
            x.value(0, 0, -1);
            x.isOf(0, 20);
            x.count(4);
            due.holds("as before refused questions", Snapshot.of(x).equals(before));
        }
    }
}
