/** Each promise with ordinary inputs, the edges that the document names, and wrong inputs. */
public final class PromisesTest {
    private static final int BAD = -1;
    private static final int NO = -2;
    private static final int FULL = -3;
    private static final int LARGE = -4;
    private static final int[] FAR = {Integer.MIN_VALUE, -1000, 1000, Integer.MAX_VALUE};

    private static final Due due = new Due();

    public static void main(String[] args) {
        newObject();
        triple();
        drop();
        shape();
        severity();
        target();
        constraintWrongInputs();
        constraintLeadingBack();
        constraintFull();
        isOf();
        focus();
        value();
        kindsThatAskOfEachValue();
        kindsThatCompareWithAPredicate();
        kindsThatCount();
        tags();
        closed();
        kindsThatNameShapes();
        toldByShape();
        fits();
        resultOrder();
        large();
        worst();
        count();
        answersFollowEveryChange();
        due.end();
    }

    private static void newObject() {
        ShaclSteps x = new ShaclSteps();
        for (int what = 0; what < 4; what++) {
            due.is("new: count " + what, x.count(what), 0);
        }
        due.is("new: run", x.run(), 0);
        due.is("new: result", x.result(0, 0), NO);
        due.is("new: worst", x.worst(2), 0);
        due.is("new: fits", x.fits(0, 0), BAD);
        due.is("new: focus", x.focus(0, 0), BAD);
        due.is("new: value", x.value(0, 0, 0), BAD);
        due.is("new: isOf", x.isOf(0, 0), 0);
        due.is("new: target", x.target(0, 0, 0), BAD);
        due.is("new: constraint", x.constraint(0, 2, 0, 0), BAD);
        x.triple(1, 0, 2);
        x.shape(-1);
        ShaclSteps y = new ShaclSteps();
        due.is("new: nothing of another object", y.count(0) + y.count(1), 0);
        due.is("BAD", ShaclSteps.BAD, BAD);
        due.is("NO", ShaclSteps.NO, NO);
        due.is("FULL", ShaclSteps.FULL, FULL);
        due.is("LARGE", ShaclSteps.LARGE, LARGE);
    }

    private static void triple() {
        ShaclSteps x = new ShaclSteps();
        due.is("triple: comes", x.triple(0, 0, 0), 1);
        due.is("triple: is there", x.triple(0, 0, 0), 0);
        due.is("triple: last of all", x.triple(19, 7, 31), 1);
        due.is("triple: literal as subject", x.triple(20, 0, 0), BAD);
        due.is("triple: subject -1", x.triple(-1, 0, 0), BAD);
        due.is("triple: predicate 8", x.triple(0, 8, 0), BAD);
        due.is("triple: predicate -1", x.triple(0, -1, 0), BAD);
        due.is("triple: object 32", x.triple(0, 0, 32), BAD);
        due.is("triple: object -1", x.triple(0, 0, -1), BAD);
        for (int far : FAR) {
            due.is("triple: far subject", x.triple(far, 0, 0), BAD);
            due.is("triple: far predicate", x.triple(0, far, 0), BAD);
            due.is("triple: far object", x.triple(0, 0, far), BAD);
        }
        due.is("triple: wrong ones do not come", x.count(0), 2);
        for (int i = 0; i < 98; i++) {
            due.is("triple: up to a hundred", x.triple(1 + i / 32, 2, i % 32), 1);
        }
        due.is("triple: a hundred", x.count(0), 100);
        due.is("triple: full", x.triple(10, 3, 10), FULL);
        due.is("triple: there when full", x.triple(19, 7, 31), 0);
        due.is("triple: bad when full", x.triple(20, 3, 10), BAD);
        due.is("triple: still a hundred", x.count(0), 100);
        x.drop(0, 0, 0);
        due.is("triple: room again", x.triple(10, 3, 10), 1);
        due.is("triple: full again", x.triple(0, 0, 0), FULL);
    }

    private static void drop() {
        ShaclSteps x = new ShaclSteps();
        x.triple(3, 4, 31);
        due.is("drop: another object", x.drop(3, 4, 30), 0);
        due.is("drop: another predicate", x.drop(3, 5, 31), 0);
        due.is("drop: another subject", x.drop(2, 4, 31), 0);
        due.is("drop: wrong subject", x.drop(20, 4, 31), BAD);
        due.is("drop: wrong predicate", x.drop(3, 8, 31), BAD);
        due.is("drop: wrong object", x.drop(3, 4, 32), BAD);
        for (int far : FAR) {
            due.is("drop: far subject", x.drop(far, 4, 31), BAD);
            due.is("drop: far predicate", x.drop(3, far, 31), BAD);
            due.is("drop: far object", x.drop(3, 4, far), BAD);
        }
        x.shape(4);
        x.shape(12);
        due.is("drop: before, ahead", x.value(3, 0, 0), 31);
        due.is("drop: before, back", x.value(31, 1, 0), 3);
        due.is("drop: goes", x.drop(3, 4, 31), 1);
        due.is("drop: is gone", x.drop(3, 4, 31), 0);
        due.is("drop: none left", x.count(0), 0);
        due.is("drop: after, ahead", x.value(3, 0, 0), NO);
        due.is("drop: after, back", x.value(31, 1, 0), NO);
    }

    private static void shape() {
        ShaclSteps x = new ShaclSteps();
        due.is("shape: path -2", x.shape(-2), BAD);
        due.is("shape: path 16", x.shape(16), BAD);
        for (int far : FAR) {
            due.is("shape: far path", x.shape(far), BAD);
        }
        for (int i = 0; i < 12; i++) {
            due.is("shape: number", x.shape(i == 11 ? 15 : i - 1), i);
        }
        due.is("shape: full", x.shape(0), FULL);
        due.is("shape: bad when full", x.shape(16), BAD);
        due.is("shape: twelve", x.count(1), 12);
    }

    private static void severity() {
        ShaclSteps x = new ShaclSteps();
        due.is("severity: no shape", x.severity(0, 0), BAD);
        x.shape(-1);
        due.is("severity: 2 at first", x.severity(0, 2), 0);
        due.is("severity: changes", x.severity(0, 0), 1);
        due.is("severity: was so", x.severity(0, 0), 0);
        due.is("severity: changes back", x.severity(0, 2), 1);
        due.is("severity: 3", x.severity(0, 3), BAD);
        due.is("severity: -1", x.severity(0, -1), BAD);
        due.is("severity: shape -1", x.severity(-1, 0), BAD);
        due.is("severity: shape 1", x.severity(1, 0), BAD);
        for (int far : FAR) {
            due.is("severity: far shape", x.severity(far, 0), BAD);
            due.is("severity: far severity", x.severity(0, far), BAD);
        }
        due.is("severity: unchanged by wrong ones", x.severity(0, 2), 0);
    }

    private static void target() {
        ShaclSteps x = new ShaclSteps();
        x.shape(-1);
        int[] tooMuch = {32, 20, 8, 8};
        for (int kind = 0; kind < 4; kind++) {
            due.is("target: a too high, kind " + kind, x.target(0, kind, tooMuch[kind]), BAD);
            due.is("target: a below 0, kind " + kind, x.target(0, kind, -1), BAD);
            due.is("target: a highest, kind " + kind, x.target(0, kind, tooMuch[kind] - 1), 2 * kind + 1);
            due.is("target: a 0, kind " + kind, x.target(0, kind, 0), 2 * kind + 2);
            for (int far : FAR) {
                due.is("target: a far, kind " + kind, x.target(0, kind, far), BAD);
            }
        }
        due.is("target: kind 4", x.target(0, 4, 0), BAD);
        due.is("target: kind -1", x.target(0, -1, 0), BAD);
        due.is("target: shape 1", x.target(1, 0, 0), BAD);
        due.is("target: shape -1", x.target(-1, 0, 0), BAD);
        for (int far : FAR) {
            due.is("target: far shape", x.target(far, 0, 0), BAD);
            due.is("target: far kind", x.target(0, far, 0), BAD);
        }
        for (int i = 9; i <= 24; i++) {
            due.is("target: the same again is one more", x.target(0, 0, 0), i);
        }
        due.is("target: full", x.target(0, 0, 1), FULL);
        due.is("target: bad when full", x.target(0, 0, 32), BAD);
        due.is("target: twenty-four", x.count(2), 24);
    }

    private static void constraintWrongInputs() {
        ShaclSteps x = new ShaclSteps();
        x.shape(-1);
        x.shape(-1);
        due.is("constraint: shape 2", x.constraint(2, 9, 0, 0), BAD);
        due.is("constraint: shape -1", x.constraint(-1, 9, 0, 0), BAD);
        due.is("constraint: kind 18", x.constraint(0, 18, 1, 1), BAD);
        due.is("constraint: kind -1", x.constraint(0, -1, 1, 1), BAD);
        int[] kinds = {0, 1, 5, 6, 7, 8, 11, 12, 13, 14, 15, 16, 17};
        int[] tooMuch = {20, 4, 32, 8, 8, 8, 2, 2, 2, 2, 2, 2, 2};
        for (int i = 0; i < kinds.length; i++) {
            due.is("constraint: a too high, kind " + kinds[i], x.constraint(0, kinds[i], tooMuch[i], 1), BAD);
            due.is("constraint: a below 0, kind " + kinds[i], x.constraint(0, kinds[i], -1, 1), BAD);
            for (int far : FAR) {
                due.is("constraint: a far, kind " + kinds[i], x.constraint(0, kinds[i], far, 1), BAD);
            }
        }
        for (int kind = 12; kind <= 14; kind++) {
            due.is("constraint: b 2, kind " + kind, x.constraint(0, kind, 1, 2), BAD);
            due.is("constraint: b -1, kind " + kind, x.constraint(0, kind, 1, -1), BAD);
            due.is("constraint: bad before leading back, kind " + kind, x.constraint(0, kind, 0, 2), BAD);
        }
        due.is("constraint: b 256, kind 17", x.constraint(0, 17, 1, 256), BAD);
        due.is("constraint: b -1, kind 17", x.constraint(0, 17, 1, -1), BAD);
        due.is("constraint: a -1, kind 2", x.constraint(0, 2, -1, 1), BAD);
        due.is("constraint: b -1, kind 2", x.constraint(0, 2, 1, -1), BAD);
        for (int far : FAR) {
            due.is("constraint: far shape", x.constraint(far, 9, 0, 0), BAD);
            due.is("constraint: far kind", x.constraint(0, far, 1, 1), BAD);
        }
        due.is("constraint: none came", x.count(3), 0);
        int number = 0;
        for (int i = 0; i < kinds.length; i++) {
            due.is("constraint: a highest, kind " + kinds[i], x.constraint(0, kinds[i], tooMuch[i] - 1, 1), number++);
        }
        due.is("constraint: b 255, kind 17", x.constraint(0, 17, 1, 255), number++);
        due.is("constraint: b 0, kind 17", x.constraint(0, 17, 1, 0), number++);
        due.is("constraint: from 0 to 0, kind 2", x.constraint(0, 2, 0, 0), number++);
        due.is("constraint: a above b, kind 2", x.constraint(0, 2, Integer.MAX_VALUE, 0), number++);
        for (int kind : new int[] {3, 4, 9, 10}) {
            due.is("constraint: any numbers, kind " + kind,
                    x.constraint(0, kind, Integer.MIN_VALUE, Integer.MAX_VALUE), number++);
        }
        for (int kind : new int[] {0, 1, 5, 6, 7, 8, 11, 15, 16}) {
            due.is("constraint: any b, kind " + kind, x.constraint(0, kind, 1, Integer.MIN_VALUE), number++);
        }
        due.is("constraint: all came", x.count(3), number);
    }

    private static void constraintLeadingBack() {
        ShaclSteps x = new ShaclSteps();
        for (int i = 0; i < 5; i++) {
            x.shape(-1);
        }
        for (int kind = 11; kind <= 17; kind++) {
            due.is("leading back: to itself, kind " + kind, x.constraint(0, kind, 0, 1), NO);
        }
        for (int kind = 12; kind <= 14; kind++) {
            due.is("leading back: to itself by b, kind " + kind, x.constraint(0, kind, 1, 0), NO);
        }
        due.is("leading back: a refused one leads nowhere", x.constraint(1, 15, 0, 0), 0);
        due.is("leading back: in one step", x.constraint(0, 15, 1, 0), NO);
        due.is("leading back: b of kind 17 is no shape", x.constraint(0, 17, 2, 1), 1);
        due.is("leading back: b of kind 15 is no shape", x.constraint(0, 15, 2, 1), 2);
        due.is("leading back: two names", x.constraint(2, 12, 3, 4), 3);
        due.is("leading back: in three steps, by a", x.constraint(3, 11, 1, 0), NO);
        due.is("leading back: in three steps, by b", x.constraint(4, 13, 3, 1), NO);
        due.is("leading back: two ways to one shape do not", x.constraint(4, 14, 3, 3), 4);
        due.is("leading back: but now they would", x.constraint(3, 16, 4, 0), NO);
        due.is("leading back: refused ones do not count", x.count(3), 5);
    }

    private static void constraintFull() {
        ShaclSteps x = new ShaclSteps();
        x.shape(-1);
        x.shape(-1);
        for (int i = 0; i < 40; i++) {
            due.is("constraint: number", x.constraint(i % 2, 9, 0, 0), i);
        }
        due.is("constraint: full", x.constraint(0, 9, 0, 0), FULL);
        due.is("constraint: bad when full", x.constraint(0, 18, 0, 0), BAD);
        due.is("constraint: leading back when full", x.constraint(0, 15, 0, 0), NO);
        due.is("constraint: full, naming a shape", x.constraint(0, 15, 1, 0), FULL);
        due.is("constraint: a refused one leads nowhere", x.constraint(1, 15, 0, 0), FULL);
        due.is("constraint: forty", x.count(3), 40);
        x.target(0, 0, 31);
        x.target(1, 0, 0);
        due.is("constraint: forty that hold", x.run(), 0);
        due.is("constraint: forty that hold, fits", x.fits(31, 1), 1);
    }

    private static void isOf() {
        ShaclSteps x = new ShaclSteps();
        x.triple(0, 0, 1);
        x.triple(1, 1, 2);
        x.triple(2, 1, 3);
        x.triple(3, 1, 1);
        x.triple(4, 0, 30);
        x.triple(5, 1, 3);
        due.is("isOf: its type", x.isOf(0, 1), 1);
        due.is("isOf: one below", x.isOf(0, 2), 1);
        due.is("isOf: two below", x.isOf(0, 3), 1);
        due.is("isOf: not what is above", x.isOf(0, 5), 0);
        due.is("isOf: not itself", x.isOf(0, 0), 0);
        due.is("isOf: a class is not of what it is below", x.isOf(1, 2), 0);
        due.is("isOf: a literal", x.isOf(31, 1), 0);
        due.is("isOf: a literal as type", x.isOf(4, 19), 0);
        due.is("isOf: no term", x.isOf(32, 0), BAD);
        due.is("isOf: term -1", x.isOf(-1, 0), BAD);
        due.is("isOf: literal as class", x.isOf(4, 30), BAD);
        due.is("isOf: class 20", x.isOf(0, 20), BAD);
        due.is("isOf: class -1", x.isOf(0, -1), BAD);
        for (int far : FAR) {
            due.is("isOf: far term", x.isOf(far, 0), BAD);
            due.is("isOf: far class", x.isOf(0, far), BAD);
        }
        x.drop(1, 1, 2);
        due.is("isOf: no longer", x.isOf(0, 3), 0);
        ShaclSteps y = new ShaclSteps();
        y.triple(19, 0, 0);
        for (int c = 0; c < 19; c++) {
            y.triple(c, 1, c + 1);
        }
        due.is("isOf: the longest way up", y.isOf(19, 19), 1);
        ShaclSteps z = new ShaclSteps();
        z.triple(0, 0, 19);
        for (int c = 19; c > 0; c--) {
            z.triple(c, 1, c - 1);
        }
        due.is("isOf: the longest way down", z.isOf(0, 0), 1);
    }

    private static void focus() {
        ShaclSteps x = new ShaclSteps();
        x.shape(5);
        x.shape(-1);
        due.is("focus: without targets", x.focus(0, 0), NO);
        x.triple(7, 0, 2);
        x.triple(6, 0, 3);
        x.triple(3, 1, 2);
        x.triple(9, 4, 31);
        x.triple(8, 4, 20);
        x.triple(8, 4, 1);
        x.target(0, 0, 31);
        due.foci("focus: a term, be it led to or not", x, 0, 31);
        x.target(0, 1, 2);
        due.foci("focus: a class too", x, 0, 6, 7, 31);
        x.target(0, 2, 4);
        due.foci("focus: all that 4 leads from too", x, 0, 6, 7, 8, 9, 31);
        x.target(0, 3, 4);
        due.foci("focus: all that 4 leads to too, each once", x, 0, 1, 6, 7, 8, 9, 20, 31);
        due.foci("focus: targets of another shape", x, 1);
        due.is("focus: i below 0", x.focus(0, -1), NO);
        due.is("focus: shape 2", x.focus(2, 0), BAD);
        due.is("focus: shape -1", x.focus(-1, 0), BAD);
        due.is("focus: bad before i", x.focus(2, -1), BAD);
        for (int far : FAR) {
            due.is("focus: far shape", x.focus(far, 0), BAD);
            due.is("focus: far i", x.focus(0, far), NO);
        }
        ShaclSteps y = new ShaclSteps();
        y.shape(-1);
        y.triple(0, 4, 5);
        y.target(0, 2, 4);
        due.foci("focus: leads from is not leads to", y, 0, 0);
        y.shape(-1);
        y.target(1, 3, 4);
        due.foci("focus: leads to is not leads from", y, 1, 5);
        y.shape(-1);
        y.triple(19, 7, 19);
        y.target(2, 2, 7);
        y.target(2, 3, 7);
        due.foci("focus: from and to itself", y, 2, 19);
        y.shape(-1);
        y.triple(18, 0, 30);
        y.target(3, 2, 0);
        y.target(3, 3, 0);
        due.foci("focus: from and to by predicate 0", y, 3, 18, 30);
    }

    private static void value() {
        ShaclSteps x = new ShaclSteps();
        x.shape(-1);
        x.shape(7);
        x.shape(15);
        x.triple(4, 7, 31);
        x.triple(4, 7, 0);
        x.triple(4, 6, 1);
        x.triple(19, 7, 31);
        due.is("value: itself", x.value(31, 0, 0), 31);
        due.is("value: itself alone", x.value(31, 0, 1), NO);
        due.is("value: first ahead", x.value(4, 1, 0), 0);
        due.is("value: second ahead", x.value(4, 1, 1), 31);
        due.is("value: no third ahead", x.value(4, 1, 2), NO);
        due.is("value: first back", x.value(31, 2, 0), 4);
        due.is("value: second back", x.value(31, 2, 1), 19);
        due.is("value: no third back", x.value(31, 2, 2), NO);
        due.is("value: a literal leads nowhere", x.value(31, 1, 0), NO);
        x.shape(0);
        x.shape(8);
        x.triple(2, 0, 3);
        due.is("value: ahead by 0", x.value(2, 3, 0), 3);
        due.is("value: nothing ahead by 0", x.value(3, 3, 0), NO);
        due.is("value: back by 0", x.value(3, 4, 0), 2);
        due.is("value: nothing back by 0", x.value(2, 4, 0), NO);
        due.is("value: i below 0", x.value(4, 1, -1), NO);
        due.is("value: term 32", x.value(32, 1, 0), BAD);
        due.is("value: term -1", x.value(-1, 1, 0), BAD);
        due.is("value: shape 5", x.value(4, 5, 0), BAD);
        due.is("value: shape -1", x.value(4, -1, 0), BAD);
        due.is("value: bad before i", x.value(4, 5, -1), BAD);
        for (int far : FAR) {
            due.is("value: far term", x.value(far, 1, 0), BAD);
            due.is("value: far shape", x.value(4, far, 0), BAD);
            due.is("value: far i", x.value(4, 1, far), NO);
        }
    }

    private static void kindsThatAskOfEachValue() {
        int[] values = {0, 19, 20, 21, 26, 27, 30, 31};
        due.oneConstraint("nodes", 1, 0, 0, values, 20, 21, 26, 27, 30, 31);
        due.oneConstraint("literals", 1, 1, 0, values, 0, 19);
        due.oneConstraint("tag 0", 1, 2, 0, values, 0, 19, 21, 27, 31);
        due.oneConstraint("tag 1", 1, 3, 0, values, 0, 19, 20, 26, 30);
        due.oneConstraint("numbers 0 to 3", 3, 0, 3, values, 0, 19, 30, 31);
        due.oneConstraint("numbers 3 to 3", 3, 3, 3, values, 0, 19, 20, 21, 30, 31);
        due.oneConstraint("numbers 4 to 5", 3, 4, 5, values, 0, 19, 20, 21, 26, 27);
        due.oneConstraint("all numbers", 3, Integer.MIN_VALUE, Integer.MAX_VALUE, values, 0, 19);
        due.oneConstraint("numbers 3 to 2", 3, 3, 2, values, values);
        due.oneConstraint("one of those told", 4, 1 << 31 | 1 << 20 | 1, 0, values, 19, 21, 26, 27, 30);
        due.oneConstraint("one of none", 4, 0, 0, values, values);
        due.oneConstraint("one of all", 4, -1, 0, values);
        due.oneConstraint("nothing is no node", 1, 0, 0, new int[0]);
        ShaclSteps x = Made.withValues(3, 4, 5, 25);
        x.triple(3, 0, 10);
        x.triple(4, 0, 11);
        x.triple(11, 1, 10);
        x.triple(5, 0, 12);
        x.constraint(0, 0, 10, 0);
        due.faults("of a class", x, 0, 5, 25);
    }

    private static void kindsThatCompareWithAPredicate() {
        ShaclSteps same = Made.withValues(1, 2, 20);
        same.triple(0, 3, 2);
        same.triple(0, 3, 31);
        same.triple(1, 3, 1);
        same.constraint(0, 6, 3, 0);
        due.faults("just those", same, 0, 1, 20, 31);
        same.triple(0, 3, 1);
        same.triple(0, 3, 20);
        same.triple(0, 2, 31);
        due.faults("just those, now so", same, 0);

        ShaclSteps none = Made.withValues(1, 2, 20, 31);
        none.triple(0, 3, 2);
        none.triple(0, 3, 31);
        none.triple(0, 3, 30);
        none.triple(1, 3, 20);
        none.constraint(0, 7, 3, 0);
        due.faults("none of those", none, 0, 2, 31);

        ShaclSteps less = Made.withValues(5, 20, 21, 22, 23, 24, 31);
        less.constraint(0, 8, 3, 0);
        due.faults("less than nothing", less, 0, 5);
        less.triple(0, 3, 27);
        due.faults("less than 3", less, 0, 5, 31);
        less.triple(0, 3, 22);
        due.faults("less than 3 and 1", less, 0, 5, 22, 23, 24, 31);
        less.drop(0, 3, 22);
        less.triple(0, 3, 23);
        due.faults("less than 3 and 1 with the other tag", less, 0, 5, 22, 23, 24, 31);
        less.triple(0, 3, 7);
        due.faults("less than a node", less, 0, 5, 20, 21, 22, 23, 24, 31);

        ShaclSteps first = Made.withValues(0, 20);
        first.constraint(0, 8, 3, 0);
        due.faults("node 0 is less than nothing", first, 0, 0);
        first.triple(0, 3, 31);
        due.faults("node 0 is not less than 5", first, 0, 0);
        first.triple(0, 3, 0);
        due.faults("nothing is less than node 0", first, 0, 0, 20);

        ShaclSteps no = Made.withValues();
        no.triple(0, 3, 7);
        no.constraint(0, 8, 3, 0);
        due.faults("no value is less than a node", no, 0);

        ShaclSteps literal = new ShaclSteps();
        literal.shape(-1);
        literal.triple(3, 3, 25);
        for (int kind = 6; kind <= 8; kind++) {
            literal.constraint(0, kind, 3, 0);
        }
        literal.target(0, 0, 25);
        due.is("a literal leads nowhere: run", literal.run(), 1);
        due.is("a literal leads nowhere: constraint", literal.result(0, 2), 0);
        due.is("a literal leads nowhere: value", literal.result(0, 3), 25);
    }

    private static void kindsThatCount() {
        int[] three = {1, 20, 21};
        due.oneConstraint("from 3 to 3", 2, 3, 3, three);
        due.oneConstraint("from 0 to 2", 2, 0, 2, three, -1);
        due.oneConstraint("from 4 to 9", 2, 4, 9, three, -1);
        due.oneConstraint("from 3 to 2", 2, 3, 2, three, -1);
        due.oneConstraint("from 0 to 0", 2, 0, 0, new int[0]);
        due.oneConstraint("from 1 on", 2, 1, Integer.MAX_VALUE, new int[0], -1);
        due.oneConstraint("20 is one", 5, 20, 0, three);
        due.oneConstraint("31 is not one", 5, 31, 0, three, -1);
        due.oneConstraint("0 is not one", 5, 0, 0, three, -1);
        int[][] fitting = {{0x22, 0}, {0x03, 0}, {0x0F, 0}, {0x33, 1}, {0x01, 1}, {0x21, 1}, {0x10, 1}, {0xFF, 1}};
        for (int[] row : fitting) {
            ShaclSteps x = Made.withValues(three);
            x.shape(-1);
            x.constraint(1, 1, 1, 0);
            x.constraint(0, 17, 1, row[0]);
            due.faults("two literals for " + row[0], x, 1, row[1] == 0 ? new int[0] : new int[] {-1});
        }
    }

    private static void tags() {
        due.oneConstraint("one of each tag", 9, 0, 0, new int[] {0, 1, 20, 31});
        due.oneConstraint("two of tag 0", 9, 0, 0, new int[] {22, 25, 30}, 22);
        due.oneConstraint("three of tag 1", 9, 0, 0, new int[] {20, 23, 29, 31}, 23);
        due.oneConstraint("both tags twice", 9, 0, 0, new int[] {2, 21, 24, 29, 28}, 21, 24);
    }

    private static void closed() {
        ShaclSteps x = Made.withValues(1, 3, 31);
        x.triple(0, 4, 9);
        x.triple(1, 5, 31);
        x.triple(1, 6, 30);
        x.triple(3, 6, 30);
        x.triple(3, 7, 2);
        x.triple(3, 0, 4);
        x.constraint(0, 10, 0, 0);
        due.faults("closed but for none", x, 0, 2, 4, 30, 31);
        ShaclSteps y = Made.withValues(1, 3);
        y.triple(1, 5, 31);
        y.triple(3, 7, 2);
        y.triple(3, 0, 4);
        y.constraint(0, 10, 1 << 7 | 1, 0);
        due.faults("closed but for 0 and 7", y, 0, 31);
        ShaclSteps z = Made.withValues(1);
        z.triple(1, 5, 31);
        z.constraint(0, 10, 0xFFFFFF00, 0);
        due.faults("bits beyond the predicates tell nothing", z, 0, 31);
        z = Made.withValues(0, 19, 20);
        z.triple(19, 7, 31);
        z.triple(18, 7, 30);
        z.constraint(0, 10, 0, 0);
        due.faults("closed, first and last node", z, 0, 0, 19, 20, 31);
        z = Made.withValues(1);
        z.triple(1, 5, 31);
        z.constraint(0, 10, -1, 0);
        due.faults("closed but for all", z, 0);
    }

    private static void kindsThatNameShapes() {
        int[][] faults = {
            {11, 20, 21}, {12, 1, 21, 22}, {13, 1}, {14, 1, 20}, {15, 1, 22},
        };
        for (int[] row : faults) {
            ShaclSteps x = Made.withValues(1, 20, 21, 22);
            x.shape(-1);
            x.shape(-1);
            x.constraint(1, 3, 0, 0);
            x.constraint(2, 1, 2, 0);
            x.constraint(0, row[0], 1, 2);
            int[] values = new int[row.length - 1];
            System.arraycopy(row, 1, values, 0, values.length);
            due.faults("kind " + row[0], x, 2, values);
        }
        ShaclSteps x = Made.withValues(1, 20);
        x.shape(-1);
        x.constraint(0, 15, 1, 0);
        due.faults("all fit a shape without constraints", x, 0);
        x.constraint(0, 11, 1, 0);
        due.faults("so none may be there", x, 1, 1, 20);
    }

    private static void toldByShape() {
        ShaclSteps x = Made.withValues(1, 3, 25);
        x.shape(4);
        x.shape(-1);
        x.severity(1, 0);
        x.triple(1, 4, 20);
        x.triple(3, 4, 8);
        x.triple(3, 4, 9);
        x.constraint(0, 16, 1, 0);
        x.constraint(1, 2, 1, 1);
        x.constraint(1, 16, 2, 0);
        x.constraint(2, 1, 1, 0);
        int[][] rows = {{3, 1, 1, -1}, {8, 2, 3, 8}, {9, 2, 3, 9}, {25, 1, 1, -1}};
        due.results("told by the shape", x, rows);
        due.is("told by the shape: severity of that shape", x.worst(0), 2);
        due.is("told by the shape: severity of the other shape", x.worst(2), 2);
        due.is("told by the shape: fits", x.fits(0, 0), 0);
        x.target(1, 0, 3);
        x.target(2, 0, 9);
        due.results("told by the shape and by its own targets: once", x, rows);
        x.constraint(0, 15, 1, 0);
        due.results("told by this shape too", x, new int[][] {
            {0, 0, 4, 3}, {0, 0, 4, 25}, {3, 1, 1, -1}, {8, 2, 3, 8}, {9, 2, 3, 9}, {25, 1, 1, -1}});

        ShaclSteps y = Made.withValues(1);
        y.shape(-1);
        y.shape(-1);
        y.constraint(2, 1, 1, 0);
        y.constraint(1, 16, 2, 0);
        y.constraint(0, 15, 1, 0);
        due.results("what only has to fit tells nothing itself", y, new int[][] {{0, 0, 2, 1}});

        ShaclSteps up = new ShaclSteps();
        for (int i = 0; i < 12; i++) {
            up.shape(-1);
        }
        up.constraint(0, 1, 1, 0);
        for (int i = 1; i < 12; i++) {
            up.constraint(i, 16, i - 1, 0);
        }
        up.target(11, 0, 7);
        due.results("a long way down", up, new int[][] {{7, 0, 0, 7}});
        for (int i = 0; i < 12; i++) {
            due.is("a long way down: fits", up.fits(7, i), 0);
            due.is("a long way down: fits", up.fits(27, i), 1);
        }
    }

    private static void fits() {
        ShaclSteps x = new ShaclSteps();
        due.is("fits: no shape", x.fits(0, 0), BAD);
        x.shape(-1);
        due.is("fits: nothing is asked", x.fits(31, 0), 1);
        x.constraint(0, 1, 1, 0);
        x.constraint(0, 4, 1 << 31 | 1, 0);
        due.is("fits: holds to both", x.fits(31, 0), 1);
        due.is("fits: holds to the first alone", x.fits(30, 0), 0);
        due.is("fits: holds to the second alone", x.fits(0, 0), 0);
        due.is("fits: needs no target", x.run(), 0);
        due.is("fits: term 32", x.fits(32, 0), BAD);
        due.is("fits: term -1", x.fits(-1, 0), BAD);
        due.is("fits: shape 1", x.fits(0, 1), BAD);
        due.is("fits: shape -1", x.fits(0, -1), BAD);
        for (int far : FAR) {
            due.is("fits: far term", x.fits(far, 0), BAD);
            due.is("fits: far shape", x.fits(0, far), BAD);
        }
    }

    private static void resultOrder() {
        ShaclSteps x = new ShaclSteps();
        x.shape(-1);
        x.shape(2);
        x.triple(5, 2, 3);
        x.triple(5, 2, 21);
        x.constraint(1, 2, 0, 1);
        x.constraint(0, 1, 1, 0);
        x.constraint(1, 4, 0, 0);
        x.constraint(0, 5, 31, 0);
        x.target(1, 0, 5);
        x.target(0, 0, 5);
        x.target(0, 0, 2);
        due.results("order", x, new int[][] {
            {2, 0, 1, 2}, {2, 0, 3, -1},
            {5, 0, 1, 5}, {5, 0, 3, -1}, {5, 1, 0, -1}, {5, 1, 2, 3}, {5, 1, 2, 21}});
        due.is("result: what 4", x.result(0, 4), BAD);
        due.is("result: what -1", x.result(0, -1), BAD);
        due.is("result: bad before i", x.result(-1, 4), BAD);
        due.is("result: i below 0", x.result(-1, 0), NO);
        for (int far : FAR) {
            due.is("result: far what", x.result(0, far), BAD);
            due.is("result: far i", x.result(far, 0), NO);
        }
    }

    private static void large() {
        ShaclSteps x = Made.with250Results();
        due.is("large: 250 are not", x.run(), 250);
        due.is("large: last of 250, focus", x.result(249, 0), 9);
        due.is("large: last of 250, constraint", x.result(249, 2), 4);
        due.is("large: last of 250, value", x.result(249, 3), 24);
        due.is("large: no more than 250", x.result(250, 0), NO);
        due.is("large: worst of 250", x.worst(2), 250);
        x.shape(-1);
        x.constraint(1, 1, 1, 0);
        x.target(1, 0, 0);
        due.is("large: 251", x.run(), LARGE);
        due.is("large: result", x.result(0, 0), LARGE);
        due.is("large: result beyond", x.result(1000, 0), LARGE);
        due.is("large: result below", x.result(-1, 3), LARGE);
        due.is("large: what is none", x.result(0, 4), BAD);
        due.is("large: worst", x.worst(0), LARGE);
        due.is("large: worst of no severity", x.worst(3), BAD);
        due.is("large: fits", x.fits(0, 0), 0);
        due.is("large: focus", x.focus(0, 9), 9);
        x.drop(9, 2, 24);
        due.is("large: no longer", x.run(), 246);
        due.is("large: no longer, result", x.result(245, 0), 9);
        ShaclSteps y = Made.with250Results();
        y.shape(-1);
        y.constraint(1, 16, 0, 0);
        y.target(1, 2, 2);
        due.is("large: equal ones are one before they are counted", y.run(), 250);
    }

    private static void worst() {
        ShaclSteps x = new ShaclSteps();
        for (int i = 0; i < 3; i++) {
            x.shape(-1);
            x.severity(i, i);
            x.constraint(i, 1, 1, 0);
            for (int t = 0; t <= i; t++) {
                x.target(i, 0, t);
            }
        }
        for (int i = 0; i < 3; i++) {
            due.is("worst: severity " + i, x.worst(i), i + 1);
        }
        x.severity(2, 0);
        due.is("worst: from now on", x.worst(0), 4);
        due.is("worst: none from now on", x.worst(2), 0);
        due.is("worst: 3", x.worst(3), BAD);
        due.is("worst: -1", x.worst(-1), BAD);
        for (int far : FAR) {
            due.is("worst: far", x.worst(far), BAD);
        }
    }

    private static void count() {
        ShaclSteps x = new ShaclSteps();
        x.triple(0, 0, 0);
        x.triple(0, 0, 1);
        x.triple(0, 0, 2);
        x.triple(0, 0, 3);
        x.shape(-1);
        x.shape(-1);
        x.shape(-1);
        x.target(0, 0, 0);
        x.target(0, 0, 0);
        x.constraint(0, 9, 0, 0);
        for (int what = 0; what < 4; what++) {
            due.is("count: " + what, x.count(what), 4 - what);
        }
        due.is("count: 4", x.count(4), BAD);
        due.is("count: -1", x.count(-1), BAD);
        for (int far : FAR) {
            due.is("count: far", x.count(far), BAD);
        }
    }

    private static void answersFollowEveryChange() {
        ShaclSteps x = new ShaclSteps();
        x.run();
        x.shape(2);
        due.is("change: a new shape is fitted", x.fits(0, 0), 1);
        x.constraint(0, 2, 1, 1);
        due.is("change: a constraint, fits", x.fits(0, 0), 0);
        due.is("change: a constraint", x.run(), 0);
        x.target(0, 0, 0);
        due.is("change: a target", x.run(), 1);
        x.triple(0, 2, 5);
        due.is("change: a triple", x.run(), 0);
        due.is("change: a triple, fits", x.fits(0, 0), 1);
        x.drop(0, 2, 5);
        due.is("change: a triple goes", x.run(), 1);
        due.is("change: a triple goes, result", x.result(0, 3), -1);
    }
}
