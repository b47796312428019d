/** Promises 4 to 7: shapes, severities, targets and constraints that come or are refused. */
final class BoundariesOfShapes {
    private static final int BAD = -1;
    private static final int NO = -2;
    private static final int FULL = -3;
    private static final int LEAST = Integer.MIN_VALUE;
    private static final int MOST = Integer.MAX_VALUE;

    private final Due due;

    BoundariesOfShapes(Due due) {
        this.due = due;
    }

    void all() {
        paths();
        atMost12();
        badPathWhenFull();
        severities();
        severityWasSo();
        severityOfNoShape();
        refusedSeverity();
        targetOfNoShape();
        targetOfNoKind();
        targetOfEachKind();
        atMost24();
        badTargetWhenFull();
        constraintOfNoShape();
        constraintOfNoKind();
        noNode();
        not0To3();
        below0();
        noTerm();
        noPredicate();
        aIsNoShape();
        bIsNoShape();
        not0To255();
        freeNumbers();
        leadsToItself();
        leadsBackByMoreSteps();
        leadsBackByTheLongestWay();
        twoWaysAreNoWayBack();
        refusedConstraintsLeadNowhere();
        atMost40();
        badBeforeNoBeforeFull();
        refusedConstraintsChangeNothing();
    }

    private void paths() {
        due.sentence(4, "each has a PATH: none (-1), a predicate p (told as p), or one turned round (8 + p)");
        ShaclSteps x = new ShaclSteps();
        for (int wrong : new int[] {-2, 16, 17, LEAST, MOST}) {
            due.is("path " + wrong, x.shape(wrong), BAD);
        }
        due.is("none came", x.count(1), 0);
        int[] right = {-1, 0, 7, 8, 15};
        for (int i = 0; i < right.length; i++) {
            due.is("path " + right[i], x.shape(right[i]), i);
        }
        x.triple(3, 0, 10);
        x.triple(11, 0, 3);
        x.triple(3, 7, 12);
        x.triple(13, 7, 3);
        int[] value = {3, 10, 12, 11, 13};
        for (int i = 0; i < right.length; i++) {
            due.values("path " + right[i], x, 3, i, value[i]);
        }
    }

    private void atMost12() {
        due.sentence(4, "SHAPES are numbered from 0, at most 12");
        ShaclSteps x = new ShaclSteps();
        for (int i = 0; i < 12; i++) {
            due.is("number", x.shape(i), i);
        }
        due.is("the 13th", x.shape(12), FULL);
        due.is("twelve", x.count(1), 12);
        due.is("there is a shape 11", x.fits(0, 11), 1);
        due.is("there is no shape 12", x.fits(0, 12), BAD);
        x.triple(1, 3, 2);
        due.values("the last one's path is as told", x, 2, 11, 1);
    }

    private void badPathWhenFull() {
        due.sentence(4, "Of several answers that a call names the first one counts (BAD before FULL)");
        ShaclSteps x = Made.withShapes(12, -1);
        due.is("path -2", x.shape(-2), BAD);
        due.is("path 16", x.shape(16), BAD);
        due.is("path -1", x.shape(-1), FULL);
        due.is("path 15", x.shape(15), FULL);
    }

    private void severities() {
        due.sentence(5, "a SEVERITY 0 .. 2 (2 at first)");
        ShaclSteps x = Made.withShapes(12, -1);
        for (int shape = 0; shape < 12; shape++) {
            due.is("2 at first", x.severity(shape, 2), 0);
        }
        for (int wrong : new int[] {-1, 3, LEAST, MOST}) {
            due.is("severity " + wrong, x.severity(0, wrong), BAD);
        }
        due.is("0", x.severity(11, 0), 1);
        due.is("1", x.severity(11, 1), 1);
        due.is("2", x.severity(11, 2), 1);
    }

    private void severityWasSo() {
        due.sentence(5, "0 when it was so");
        ShaclSteps x = Made.withShapes(2, -1);
        for (int severity = 0; severity < 3; severity++) {
            due.is("changes", x.severity(0, severity), 1);
            due.is("was so", x.severity(0, severity), 0);
            due.is("was so before too", x.severity(0, severity), 0);
            due.is("the other shape's is its own", x.severity(1, 2), 0);
        }
    }

    private void severityOfNoShape() {
        due.sentence(5, "BAD (no such shape)");
        ShaclSteps x = Made.withShapes(2, -1);
        for (int wrong : new int[] {-1, 2, 11, 12, LEAST, MOST}) {
            due.is("shape " + wrong, x.severity(wrong, 2), BAD);
        }
        due.is("shape 1", x.severity(1, 2), 0);
    }

    private void refusedSeverity() {
        due.sentence(5, "BAD (and the severity stays)");
        ShaclSteps x = Made.withShapes(1, -1);
        x.severity(0, 1);
        x.severity(0, 3);
        x.severity(0, -1);
        x.severity(1, 0);
        due.is("as it was", x.severity(0, 1), 0);
    }

    private void targetOfNoShape() {
        due.sentence(6, "no such shape");
        ShaclSteps x = Made.withShapes(2, -1);
        for (int wrong : new int[] {-1, 2, 12, LEAST, MOST}) {
            due.is("shape " + wrong, x.target(wrong, 0, 0), BAD);
        }
        due.is("none came", x.count(2), 0);
        due.is("shape 1", x.target(1, 0, 0), 1);
        due.is("shape 0", x.target(0, 0, 0), 2);
    }

    private void targetOfNoKind() {
        due.sentence(6, "no such shape, kind");
        ShaclSteps x = Made.withShapes(1, -1);
        for (int wrong : new int[] {-1, 4, LEAST, MOST}) {
            due.is("kind " + wrong, x.target(0, wrong, 0), BAD);
        }
        due.is("none came", x.count(2), 0);
        for (int kind = 0; kind < 4; kind++) {
            due.is("kind " + kind, x.target(0, kind, 0), kind + 1);
        }
    }

    private void targetOfEachKind() {
        int[] end = {32, 20, 8, 8};
        String[] words = {"a is no term (kind 0)", "node (1)", "predicate (2, 3) (2)", "predicate (2, 3) (3)"};
        for (int kind = 0; kind < 4; kind++) {
            due.sentence(6, words[kind]);
            ShaclSteps x = Made.withShapes(1, -1);
            for (int wrong : new int[] {-1, end[kind], LEAST, MOST}) {
                due.is("a = " + wrong, x.target(0, kind, wrong), BAD);
            }
            due.is("none came", x.count(2), 0);
            due.is("a = 0", x.target(0, kind, 0), 1);
            due.is("a = " + (end[kind] - 1), x.target(0, kind, end[kind] - 1), 2);
        }
    }

    private void atMost24() {
        due.sentence(6, "TARGETS, at most 24");
        ShaclSteps x = Made.withShapes(12, -1);
        for (int i = 1; i <= 24; i++) {
            due.is("how many", x.target(i % 12, 0, i), i);
        }
        due.is("the 25th", x.target(0, 0, 31), FULL);
        due.is("one that is there already", x.target(1, 0, 1), FULL);
        due.is("twenty-four", x.count(2), 24);
        due.foci("shape 0 is for two terms", x, 0, 12, 24);
    }

    private void badTargetWhenFull() {
        due.sentence(6, "Of several answers that a call names the first one counts (BAD before FULL)");
        ShaclSteps x = Made.with24Targets();
        due.is("shape", x.target(2, 0, 0), BAD);
        due.is("kind", x.target(0, 4, 0), BAD);
        due.is("term", x.target(0, 0, 32), BAD);
        due.is("node", x.target(0, 1, 20), BAD);
        due.is("predicate", x.target(0, 3, 8), BAD);
        due.is("a right one", x.target(0, 3, 7), FULL);
    }

    private void constraintOfNoShape() {
        due.sentence(7, "BAD: no such shape");
        ShaclSteps x = Made.withShapes(2, -1);
        for (int wrong : new int[] {-1, 2, 12, LEAST, MOST}) {
            for (int kind = 0; kind < 18; kind++) {
                due.is("shape " + wrong + ", kind " + kind, x.constraint(wrong, kind, 1, 1), BAD);
            }
        }
        due.is("none came", x.count(3), 0);
        due.is("shape 1", x.constraint(1, 9, 0, 0), 0);
        due.is("shape 0", x.constraint(0, 9, 0, 0), 1);
    }

    private void constraintOfNoKind() {
        due.sentence(7, "BAD: no such shape, kind");
        ShaclSteps x = Made.withShapes(2, -1);
        for (int wrong : new int[] {-1, 18, LEAST, MOST}) {
            due.is("kind " + wrong, x.constraint(0, wrong, 1, 1), BAD);
        }
        due.is("none came", x.count(3), 0);
        for (int kind = 0; kind < 18; kind++) {
            due.is("kind " + kind, x.constraint(0, kind, 1, 1), kind);
        }
    }

    /** A number from 0 to end - 1 is taken for a, any other one refused; b is 1. */
    private void boundsOfA(int kind, int end) {
        ShaclSteps x = Made.withShapes(2, -1);
        for (int wrong : new int[] {-1, end, LEAST, MOST}) {
            due.is("kind " + kind + ", a = " + wrong, x.constraint(0, kind, wrong, 1), BAD);
        }
        due.is("kind " + kind + ": none came", x.count(3), 0);
        due.is("kind " + kind + ", a = " + (end - 1), x.constraint(0, kind, end - 1, 1), 0);
        if (kind < 11) {
            due.is("kind " + kind + ", a = 0", x.constraint(0, kind, 0, 1), 1);
        }
    }

    private void noNode() {
        due.sentence(7, "a is no node (0)");
        boundsOfA(0, 20);
    }

    private void not0To3() {
        due.sentence(7, "not 0 .. 3 (1)");
        boundsOfA(1, 4);
    }

    private void below0() {
        due.sentence(7, "or a or b is below 0 (2)");
        ShaclSteps x = Made.withShapes(1, -1);
        due.is("a = -1", x.constraint(0, 2, -1, 0), BAD);
        due.is("b = -1", x.constraint(0, 2, 0, -1), BAD);
        due.is("both -1", x.constraint(0, 2, -1, -1), BAD);
        due.is("least a", x.constraint(0, 2, LEAST, 0), BAD);
        due.is("least b", x.constraint(0, 2, 0, LEAST), BAD);
        due.is("none came", x.count(3), 0);
        due.is("both 0", x.constraint(0, 2, 0, 0), 0);
        due.is("most b", x.constraint(0, 2, 0, MOST), 1);
        due.is("most a, a above b", x.constraint(0, 2, MOST, 0), 2);
    }

    private void noTerm() {
        due.sentence(7, "no term (5)");
        boundsOfA(5, 32);
    }

    private void noPredicate() {
        for (int kind = 6; kind <= 8; kind++) {
            due.sentence(7, "no predicate (6, 7, 8) (" + kind + ")");
            boundsOfA(kind, 8);
        }
    }

    private void aIsNoShape() {
        for (int kind = 11; kind <= 17; kind++) {
            due.sentence(7, "no shape (11 to 17) (" + kind + ")");
            boundsOfA(kind, 2);
            ShaclSteps x = Made.withShapes(1, -1);
            due.is("a shape that is not there yet", x.constraint(0, kind, 1, 0), BAD);
            x.shape(-1);
            due.is("now it is", x.constraint(0, kind, 1, 1), 0);
        }
    }

    private void bIsNoShape() {
        for (int kind = 12; kind <= 14; kind++) {
            due.sentence(7, "or b is no shape (12, 13, 14) (" + kind + ")");
            ShaclSteps x = Made.withShapes(3, -1);
            for (int wrong : new int[] {-1, 3, LEAST, MOST}) {
                due.is("b = " + wrong, x.constraint(0, kind, 1, wrong), BAD);
            }
            due.is("none came", x.count(3), 0);
            due.is("b = 2", x.constraint(0, kind, 1, 2), 0);
            due.is("b = 0", x.constraint(2, kind, 1, 0), NO);
            due.is("b = a", x.constraint(2, kind, 1, 1), 1);
        }
    }

    private void not0To255() {
        due.sentence(7, "not 0 .. 255 (17)");
        ShaclSteps x = Made.withShapes(2, -1);
        for (int wrong : new int[] {-1, 256, LEAST, MOST}) {
            due.is("b = " + wrong, x.constraint(0, 17, 1, wrong), BAD);
        }
        due.is("none came", x.count(3), 0);
        due.is("b = 0", x.constraint(0, 17, 1, 0), 0);
        due.is("b = 255", x.constraint(0, 17, 1, 255), 1);
    }

    private void freeNumbers() {
        due.sentence(7, "each belongs to a shape, with a kind, and numbers a, b (any, where no bound is named)");
        ShaclSteps x = Made.withShapes(2, -1);
        int number = 0;
        for (int kind : new int[] {3, 4, 9, 10}) {
            due.is("least a, kind " + kind, x.constraint(0, kind, LEAST, MOST), number++);
            due.is("most a, kind " + kind, x.constraint(0, kind, MOST, LEAST), number++);
        }
        for (int kind : new int[] {0, 1, 5, 6, 7, 8, 11, 15, 16}) {
            due.is("least b, kind " + kind, x.constraint(0, kind, 1, LEAST), number++);
            due.is("most b, kind " + kind, x.constraint(0, kind, 1, MOST), number++);
        }
        due.is("b that would be the shape itself, kind 15", x.constraint(0, 15, 1, 0), number++);
        due.is("b that would be the shape itself, kind 17", x.constraint(0, 17, 1, 0), number);
    }

    private void leadsToItself() {
        due.sentence(7, "NO: the shape would lead back to itself");
        ShaclSteps x = Made.withShapes(12, -1);
        for (int shape : new int[] {0, 11}) {
            int other = 11 - shape;
            for (int kind = 11; kind <= 17; kind++) {
                due.is("kind " + kind + " by a", x.constraint(shape, kind, shape, other), NO);
            }
            for (int kind = 12; kind <= 14; kind++) {
                due.is("kind " + kind + " by b", x.constraint(shape, kind, other, shape), NO);
                due.is("kind " + kind + " by both", x.constraint(shape, kind, shape, shape), NO);
            }
        }
        due.is("none came", x.count(3), 0);
        due.is("a of another kind is no shape", x.constraint(0, 5, 0, 0), 0);
    }

    private void leadsBackByMoreSteps() {
        due.sentence(7, "No shape leads back to itself by what 11 to 17 name.");
        for (int first = 11; first <= 17; first++) {
            for (int second = 11; second <= 17; second++) {
                ShaclSteps x = Made.withShapes(3, -1);
                due.is("there by " + first, x.constraint(0, first, 1, 1), 0);
                due.is("back by " + second, x.constraint(1, second, 0, 2), NO);
                if (second >= 12 && second <= 14) {
                    due.is("back by b of " + second, x.constraint(1, second, 2, 0), NO);
                }
            }
        }
        for (int kind = 12; kind <= 14; kind++) {
            ShaclSteps x = Made.withShapes(3, -1);
            due.is("there by b of " + kind, x.constraint(0, kind, 2, 1), 0);
            due.is("back to it", x.constraint(1, 15, 0, 0), NO);
        }
    }

    private void leadsBackByTheLongestWay() {
        due.sentence(7, "No shape leads back to itself by what 11 to 17 name. (through all twelve)");
        ShaclSteps up = Made.withShapes(12, -1);
        ShaclSteps mixed = Made.withShapes(12, -1);
        for (int i = 0; i < 11; i++) {
            due.is("upwards", up.constraint(i, 15, i + 1, 0), i);
            int from = (i * 5) % 11;
            due.is("in a mixed order", mixed.constraint(from, 15, from + 1, 0), i);
        }
        for (int from = 0; from < 12; from++) {
            for (int to = 0; to <= from; to++) {
                due.is("back from " + from + " to " + to, up.constraint(from, 16, to, 0), NO);
                due.is("mixed, back from " + from + " to " + to, mixed.constraint(from, 16, to, 0), NO);
            }
        }
        due.is("forward again is no way back", up.constraint(0, 16, 11, 0), 11);
    }

    private void twoWaysAreNoWayBack() {
        due.sentence(7, "NO: the shape would lead back to itself (two ways to one shape are none back)");
        ShaclSteps x = Made.withShapes(4, -1);
        due.is("0 to 1 and 2", x.constraint(0, 12, 1, 2), 0);
        due.is("1 to 3", x.constraint(1, 15, 3, 0), 1);
        due.is("2 to 3", x.constraint(2, 15, 3, 0), 2);
        due.is("0 to 3 as well", x.constraint(0, 11, 3, 0), 3);
        due.is("2 to 1", x.constraint(2, 15, 1, 0), 4);
        due.is("but not 1 to 2 now", x.constraint(1, 15, 2, 0), NO);
        due.is("the same again", x.constraint(0, 12, 1, 2), 5);
    }

    private void refusedConstraintsLeadNowhere() {
        due.sentence(7, "NO: the shape would lead back to itself (a refused constraint leads nowhere)");
        ShaclSteps x = Made.withShapes(3, -1);
        due.is("by b, so that a is not joined either", x.constraint(0, 12, 1, 0), NO);
        due.is("bad b, so that a is not joined either", x.constraint(0, 12, 1, 3), BAD);
        due.is("1 to 0", x.constraint(1, 15, 0, 0), 0);
        ShaclSteps full = Made.with40Constraints();
        due.is("full", full.constraint(0, 15, 1, 0), FULL);
        due.is("full, not led back", full.constraint(1, 15, 0, 0), FULL);
    }

    private void atMost40() {
        due.sentence(7, "CONSTRAINTS, at most 40, are numbered from 0");
        ShaclSteps x = Made.withShapes(12, -1);
        for (int i = 0; i < 40; i++) {
            due.is("number", x.constraint(i % 12, 1, 1, 0), i);
        }
        due.is("the 41st", x.constraint(0, 1, 1, 0), FULL);
        due.is("forty", x.count(3), 40);
        x.target(3, 0, 19);
        due.results("the 40th is asked", x,
                new int[][] {{19, 3, 3, 19}, {19, 3, 15, 19}, {19, 3, 27, 19}, {19, 3, 39, 19}});
    }

    private void badBeforeNoBeforeFull() {
        due.sentence(7, "Of several answers that a call names the first one counts (BAD, NO, FULL)");
        ShaclSteps x = Made.with40Constraints();
        due.is("shape and full", x.constraint(2, 9, 0, 0), BAD);
        due.is("kind and full", x.constraint(0, 18, 0, 0), BAD);
        due.is("a and full", x.constraint(0, 0, 20, 0), BAD);
        due.is("a below 0 and full", x.constraint(0, 2, -1, 0), BAD);
        due.is("b no shape, a leading back, full", x.constraint(0, 13, 0, 2), BAD);
        due.is("a no shape, b leading back, full", x.constraint(0, 14, 2, 0), BAD);
        due.is("b not 0 .. 255, a leading back, full", x.constraint(0, 17, 0, 256), BAD);
        due.is("a leading back, full", x.constraint(0, 17, 0, 255), NO);
        due.is("b leading back, full", x.constraint(0, 12, 1, 0), NO);
        due.is("full", x.constraint(0, 12, 1, 1), FULL);
    }

    private void refusedConstraintsChangeNothing() {
        due.sentence(7, "BAD .. NO .. FULL (and nothing comes)");
        ShaclSteps x = Made.with40Constraints();
        x.target(0, 0, 5);
        x.target(1, 0, 25);
        String before = Snapshot.of(x);
        x.constraint(1, 1, 0, 0);
        x.constraint(0, 11, 1, 0);
        x.constraint(0, 11, 0, 0);
        x.constraint(0, 18, 0, 0);
        due.holds("as before, full", Snapshot.of(x).equals(before));
        ShaclSteps y = Made.withValues(1, 20);
        before = Snapshot.of(y);
        y.constraint(0, 1, 4, 0);
        y.constraint(0, 2, 0, -1);
        y.constraint(0, 11, 0, 0);
        y.constraint(1, 1, 1, 0);
        due.holds("as before", Snapshot.of(y).equals(before));
    }
}
