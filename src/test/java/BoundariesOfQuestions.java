/** Promises 11 to 15: fits, focus, value, isOf and count. */
final class BoundariesOfQuestions {
    private static final int BAD = -1;
    private static final int NO = -2;
    private static final int LEAST = Integer.MIN_VALUE;
    private static final int MOST = Integer.MAX_VALUE;

    private final Due due;

    BoundariesOfQuestions(Due due) {
        this.due = due;
    }

    void all() {
        fitsWrongTerm();
        fitsWrongShape();
        focusWrongShape();
        focusNotSoMany();
        focusBelow0();
        focusBadBeforeNo();
        focusOfAll32();
        focusOfNone();
        focusByEachPredicate();
        valueWrongTerm();
        valueWrongShape();
        valueNotSoMany();
        valueBelow0();
        valueBadBeforeNo();
        valueItself();
        valueAheadOfAll32();
        valueBackOfAll20();
        isOfNoTerm();
        isOfNoNode();
        isOfItsType();
        isOfByBelow();
        isOfInACircle();
        isOfByTheLongestWay();
        isOfOtherPredicates();
        countOfNone();
        countWhenFull();
        countAfterRefusals();
    }

    private void fitsWrongTerm() {
        due.sentence(11, "BAD (no term)");
        ShaclSteps x = Made.withShapes(1, -1);
        for (int wrong : new int[] {-1, 32, LEAST, MOST}) {
            due.is("term " + wrong, x.fits(wrong, 0), BAD);
        }
        due.is("term 0", x.fits(0, 0), 1);
        due.is("term 31", x.fits(31, 0), 1);
    }

    private void fitsWrongShape() {
        due.sentence(11, "BAD (no such shape)");
        ShaclSteps x = Made.withShapes(2, -1);
        for (int wrong : new int[] {-1, 2, 12, LEAST, MOST}) {
            due.is("shape " + wrong, x.fits(0, wrong), BAD);
        }
        due.is("shape 1", x.fits(0, 1), 1);
        x.shape(-1);
        due.is("shape 2 now", x.fits(0, 2), 1);
    }

    private void focusWrongShape() {
        due.sentence(12, "BAD");
        ShaclSteps x = Made.withShapes(2, -1);
        x.target(1, 0, 7);
        for (int wrong : new int[] {-1, 2, 12, LEAST, MOST}) {
            due.is("shape " + wrong, x.focus(wrong, 0), BAD);
        }
        due.is("shape 1", x.focus(1, 0), 7);
    }

    private void focusNotSoMany() {
        due.sentence(12, "NO: there are not so many");
        ShaclSteps x = Made.withShapes(1, -1);
        due.is("of none", x.focus(0, 0), NO);
        x.target(0, 0, 31);
        x.target(0, 0, 0);
        due.is("i = 0", x.focus(0, 0), 0);
        due.is("i = 1", x.focus(0, 1), 31);
        for (int i : new int[] {2, 31, 32, 33, MOST}) {
            due.is("i = " + i, x.focus(0, i), NO);
        }
    }

    private void focusBelow0() {
        due.sentence(12, "of an i below 0 there are not so many");
        ShaclSteps x = Made.with24Targets();
        for (int i : new int[] {-1, -2, -32, LEAST, LEAST + 1}) {
            due.is("i = " + i, x.focus(0, i), NO);
            due.is("of none, i = " + i, x.focus(1, i), NO);
        }
    }

    private void focusBadBeforeNo() {
        due.sentence(12, "Of several answers that a call names the first one counts (BAD before NO)");
        ShaclSteps x = Made.withShapes(1, -1);
        due.is("shape 1, i = -1", x.focus(1, -1), BAD);
        due.is("shape -1, i = 0", x.focus(-1, 0), BAD);
        due.is("shape 0, i = -1", x.focus(0, -1), NO);
    }

    private void focusOfAll32() {
        due.sentence(12, "The i-th term that a shape is for, by numbers. (all 32)");
        ShaclSteps x = Made.withShapes(1, -1);
        for (int o = 31; o >= 0; o--) {
            x.triple(o % 20, 7, o);
        }
        x.target(0, 3, 7);
        for (int i = 0; i < 32; i++) {
            due.is("i = " + i, x.focus(0, i), i);
        }
        due.is("i = 32", x.focus(0, 32), NO);
        x.shape(-1);
        x.target(1, 2, 7);
        for (int i = 0; i < 20; i++) {
            due.is("leading, i = " + i, x.focus(1, i), i);
        }
        due.is("leading, i = 20", x.focus(1, 20), NO);
    }

    private void focusOfNone() {
        due.sentence(12, "for all terms that are of a class (1), for all that predicate a leads from (2), "
                + "for all that it leads to (3) (none)");
        ShaclSteps x = Made.withShapes(1, -1);
        x.triple(19, 0, 18);
        x.triple(17, 7, 31);
        x.target(0, 1, 19);
        x.target(0, 2, 6);
        x.target(0, 3, 6);
        due.foci("none", x, 0);
        x.target(0, 1, 18);
        due.foci("of class 18", x, 0, 19);
        x.target(0, 2, 7);
        due.foci("led from by 7", x, 0, 17, 19);
        x.target(0, 3, 7);
        due.foci("led to by 7", x, 0, 17, 19, 31);
        x.target(0, 0, 19);
        due.foci("one for two reasons is there once", x, 0, 17, 19, 31);
    }

    private void focusByEachPredicate() {
        due.sentence(12, "for all that predicate a leads from (2), for all that it leads to (3) (a = 0 to 7)");
        for (int p = 0; p < 8; p++) {
            ShaclSteps x = Made.withShapes(2, -1);
            x.target(0, 2, p);
            x.target(1, 3, p);
            for (int other = 0; other < 8; other++) {
                x.triple(other, other, 20 + other);
            }
            due.foci("led from by " + p, x, 0, p);
            due.foci("led to by " + p, x, 1, 20 + p);
        }
    }

    private void valueWrongTerm() {
        due.sentence(13, "BAD (no term)");
        ShaclSteps x = Made.withShapes(1, -1);
        x.shape(0);
        x.shape(15);
        for (int shape = 0; shape < 3; shape++) {
            for (int wrong : new int[] {-1, 32, LEAST, MOST}) {
                due.is("term " + wrong, x.value(wrong, shape, 0), BAD);
            }
        }
        due.is("term 0", x.value(0, 0, 0), 0);
        due.is("term 31", x.value(31, 0, 0), 31);
    }

    private void valueWrongShape() {
        due.sentence(13, "BAD (no such shape)");
        ShaclSteps x = Made.withShapes(2, -1);
        for (int wrong : new int[] {-1, 2, 12, LEAST, MOST}) {
            due.is("shape " + wrong, x.value(0, wrong, 0), BAD);
        }
        due.is("shape 1", x.value(0, 1, 0), 0);
    }

    private void valueNotSoMany() {
        due.sentence(13, "NO: there are not so many");
        ShaclSteps x = Made.withValues(31, 0);
        due.is("i = 0", x.value(0, 0, 0), 0);
        due.is("i = 1", x.value(0, 0, 1), 31);
        for (int i : new int[] {2, 31, 32, 33, MOST}) {
            due.is("i = " + i, x.value(0, 0, i), NO);
        }
        due.is("of none", x.value(1, 0, 0), NO);
        due.is("of a literal", x.value(31, 0, 0), NO);
    }

    private void valueBelow0() {
        due.sentence(13, "of an i below 0 there are not so many");
        ShaclSteps x = Made.withValues(31, 0);
        x.shape(-1);
        for (int i : new int[] {-1, -2, -32, LEAST, LEAST + 1}) {
            due.is("i = " + i, x.value(0, 0, i), NO);
            due.is("itself, i = " + i, x.value(0, 1, i), NO);
            due.is("of none, i = " + i, x.value(1, 0, i), NO);
        }
    }

    private void valueBadBeforeNo() {
        due.sentence(13, "Of several answers that a call names the first one counts (BAD before NO)");
        ShaclSteps x = Made.withShapes(1, 2);
        due.is("term 32, i = -1", x.value(32, 0, -1), BAD);
        due.is("shape 1, i = 32", x.value(0, 1, 32), BAD);
        due.is("i = -1", x.value(0, 0, -1), NO);
    }

    private void valueItself() {
        due.sentence(13, "without a path itself");
        ShaclSteps x = Made.withShapes(1, -1);
        x.triple(0, 0, 5);
        x.triple(0, 7, 31);
        for (int term : new int[] {0, 19, 20, 31}) {
            due.values("term " + term, x, term, 0, term);
        }
    }

    private void valueAheadOfAll32() {
        due.sentence(13, "The i-th value of a term for a shape, by numbers. (all 32)");
        ShaclSteps x = Made.withShapes(1, 7);
        for (int o = 31; o >= 0; o--) {
            x.triple(19, 7, o);
        }
        for (int i = 0; i < 32; i++) {
            due.is("i = " + i, x.value(19, 0, i), i);
        }
        due.is("i = 32", x.value(19, 0, 32), NO);
        due.is("the node before", x.value(18, 0, 0), NO);
    }

    private void valueBackOfAll20() {
        due.sentence(13, "The i-th value of a term for a shape, by numbers. (turned round, all 20 nodes)");
        ShaclSteps x = Made.withShapes(1, 15);
        for (int s = 19; s >= 0; s--) {
            x.triple(s, 7, 31);
        }
        for (int i = 0; i < 20; i++) {
            due.is("i = " + i, x.value(31, 0, i), i);
        }
        due.is("i = 20", x.value(31, 0, 20), NO);
        due.is("the literal before", x.value(30, 0, 0), NO);
    }

    private void isOfNoTerm() {
        due.sentence(14, "BAD: no term");
        ShaclSteps x = new ShaclSteps();
        for (int wrong : new int[] {-1, 32, LEAST, MOST}) {
            due.is("term " + wrong, x.isOf(wrong, 0), BAD);
        }
        due.is("term 0", x.isOf(0, 0), 0);
        due.is("term 31", x.isOf(31, 0), 0);
    }

    private void isOfNoNode() {
        due.sentence(14, "BAD: no term, no node");
        ShaclSteps x = new ShaclSteps();
        x.triple(0, 0, 20);
        x.triple(0, 0, 19);
        for (int wrong : new int[] {-1, 20, 31, 32, LEAST, MOST}) {
            due.is("class " + wrong, x.isOf(0, wrong), BAD);
        }
        due.is("class 0", x.isOf(0, 0), 0);
        due.is("class 19", x.isOf(0, 19), 1);
    }

    private void isOfItsType() {
        due.sentence(14, "when it has a TYPE that is the class");
        ShaclSteps x = new ShaclSteps();
        x.triple(19, 0, 0);
        x.triple(0, 0, 19);
        x.triple(7, 0, 7);
        due.is("19 of 0", x.isOf(19, 0), 1);
        due.is("0 of 19", x.isOf(0, 19), 1);
        due.is("not of the class of its class", x.isOf(19, 19), 0);
        due.is("of itself when it has that TYPE", x.isOf(7, 7), 1);
        for (int literal = 20; literal < 32; literal++) {
            due.is("a literal", x.isOf(literal, 0), 0);
        }
        x.drop(19, 0, 0);
        due.is("no longer", x.isOf(19, 0), 0);
    }

    private void isOfByBelow() {
        due.sentence(14, "or that leads to it by one BELOW or more");
        ShaclSteps x = new ShaclSteps();
        x.triple(19, 0, 5);
        x.triple(5, 1, 0);
        x.triple(0, 1, 18);
        x.triple(4, 1, 5);
        due.is("none", x.isOf(19, 5), 1);
        due.is("one", x.isOf(19, 0), 1);
        due.is("two", x.isOf(19, 18), 1);
        due.is("not what is below its TYPE", x.isOf(19, 4), 0);
        due.is("BELOW alone is no TYPE", x.isOf(5, 0), 0);
        due.is("nor is it for the term", x.isOf(4, 18), 0);
    }

    private void isOfInACircle() {
        due.sentence(14, "leads to it by one BELOW or more (in a circle)");
        ShaclSteps x = new ShaclSteps();
        x.triple(5, 0, 0);
        for (int c = 0; c < 20; c++) {
            x.triple(c, 1, (c + 1) % 20);
        }
        for (int c = 0; c < 20; c++) {
            due.is("all in the circle", x.isOf(5, c), 1);
            due.is("without a TYPE", x.isOf(6, c), 0);
        }
        ShaclSteps y = new ShaclSteps();
        y.triple(5, 0, 3);
        y.triple(3, 1, 3);
        due.is("below itself", y.isOf(5, 3), 1);
        due.is("nothing else", y.isOf(5, 4), 0);
    }

    private void isOfByTheLongestWay() {
        due.sentence(14, "leads to it by one BELOW or more (19 of them)");
        ShaclSteps up = new ShaclSteps();
        ShaclSteps down = new ShaclSteps();
        up.triple(10, 0, 0);
        down.triple(10, 0, 19);
        for (int c = 0; c < 19; c++) {
            up.triple(c, 1, c + 1);
            down.triple(19 - c, 1, 18 - c);
        }
        due.is("up", up.isOf(10, 19), 1);
        due.is("down", down.isOf(10, 0), 1);
        up.drop(9, 1, 10);
        due.is("broken, before", up.isOf(10, 9), 1);
        due.is("broken, behind", up.isOf(10, 10), 0);
    }

    private void isOfOtherPredicates() {
        due.sentence(14, "Predicate 0 is TYPE, 1 is BELOW.");
        for (int p = 0; p < 8; p++) {
            ShaclSteps x = new ShaclSteps();
            x.triple(3, p, 4);
            due.is("TYPE is not " + p, x.isOf(3, 4), p == 0 ? 1 : 0);
            ShaclSteps y = new ShaclSteps();
            y.triple(3, 0, 4);
            y.triple(4, p, 5);
            due.is("BELOW is not " + p, y.isOf(3, 5), p == 1 ? 1 : 0);
        }
    }

    private void countOfNone() {
        due.sentence(15, "BAD");
        ShaclSteps x = new ShaclSteps();
        for (int wrong : new int[] {-1, 4, LEAST, MOST}) {
            due.is("what = " + wrong, x.count(wrong), BAD);
        }
        for (int what = 0; what < 4; what++) {
            due.is("what = " + what, x.count(what), 0);
        }
    }

    private void countWhenFull() {
        due.sentence(15, "How many triples (what = 0), shapes (1), targets (2), constraints (3) there are. (full)");
        ShaclSteps x = Made.with100Triples();
        for (int i = 0; i < 13; i++) {
            x.shape(-1);
        }
        for (int i = 0; i < 25; i++) {
            x.target(0, 0, i);
        }
        for (int i = 0; i < 41; i++) {
            x.constraint(0, 9, 0, 0);
        }
        x.triple(19, 7, 31);
        int[] full = {100, 12, 24, 40};
        for (int what = 0; what < 4; what++) {
            due.is("what = " + what, x.count(what), full[what]);
        }
        due.is("BAD when full", x.count(4), BAD);
    }

    private void countAfterRefusals() {
        due.sentence(15, "How many triples (what = 0), shapes (1), targets (2), constraints (3) there are. (refused ones)");
        ShaclSteps x = Made.withValues(5);
        x.triple(0, 2, 5);
        x.triple(0, 2, 32);
        x.drop(0, 2, 6);
        x.shape(16);
        x.target(0, 4, 0);
        x.target(1, 0, 0);
        x.constraint(0, 15, 0, 0);
        x.constraint(0, 18, 0, 0);
        int[] many = {1, 1, 1, 0};
        for (int what = 0; what < 4; what++) {
            due.is("what = " + what, x.count(what), many[what]);
        }
    }
}
