/** Promises 1 to 3: a new object, triples that come and go. */
final class BoundariesOfTriples {
    private static final int BAD = -1;
    private static final int NO = -2;
    private static final int FULL = -3;
    private static final int LEAST = Integer.MIN_VALUE;
    private static final int MOST = Integer.MAX_VALUE;

    private final Due due;

    BoundariesOfTriples(Due due) {
        this.due = due;
    }

    void all() {
        nothingInANewObject();
        nothingSharedByTwoObjects();
        subjects();
        predicates();
        objects();
        atMost100();
        isThere();
        isThereWhenFull();
        badWhenFull();
        roomAfterADrop();
        refusedTriplesChangeNothing();
        isNotThere();
        dropOfWrongOnes();
        dropOfOneAlone();
        dropOfAll();
        upTo512Calls();
    }

    private void nothingInANewObject() {
        due.sentence(1, "No triples, no shapes.");
        ShaclSteps x = new ShaclSteps();
        for (int what = 0; what < 4; what++) {
            due.is("count " + what, x.count(what), 0);
        }
        due.is("run", x.run(), 0);
        for (int what = 0; what < 4; what++) {
            due.is("result 0", x.result(0, what), NO);
        }
        for (int severity = 0; severity < 3; severity++) {
            due.is("worst", x.worst(severity), 0);
        }
        due.is("drop the first", x.drop(0, 0, 0), 0);
        due.is("drop the last", x.drop(19, 7, 31), 0);
        due.is("isOf", x.isOf(0, 0), 0);
        due.is("no shape 0: severity", x.severity(0, 2), BAD);
        due.is("no shape 0: target", x.target(0, 0, 0), BAD);
        due.is("no shape 0: constraint", x.constraint(0, 9, 0, 0), BAD);
        due.is("no shape 0: fits", x.fits(0, 0), BAD);
        due.is("no shape 0: focus", x.focus(0, 0), BAD);
        due.is("no shape 0: value", x.value(0, 0, 0), BAD);
    }

    private void nothingSharedByTwoObjects() {
        due.sentence(1, "No triples, no shapes. (beside a full object)");
        ShaclSteps full = Made.with251Results();
        ShaclSteps x = new ShaclSteps();
        for (int what = 0; what < 4; what++) {
            due.is("count " + what, x.count(what), 0);
        }
        due.is("run", x.run(), 0);
        x.triple(0, 2, 31);
        x.shape(-1);
        due.is("the full one has its triples", full.count(0), 50);
        due.is("the full one has its shapes", full.count(1), 2);
    }

    private void subjects() {
        due.sentence(2, "TRIPLES (s, p, o) have a node");
        ShaclSteps x = new ShaclSteps();
        due.is("-1", x.triple(-1, 2, 5), BAD);
        due.is("20, the first literal", x.triple(20, 2, 5), BAD);
        due.is("31, the last literal", x.triple(31, 2, 5), BAD);
        due.is("32", x.triple(32, 2, 5), BAD);
        due.is("least", x.triple(LEAST, 2, 5), BAD);
        due.is("most", x.triple(MOST, 2, 5), BAD);
        due.is("none came", x.count(0), 0);
        due.is("0", x.triple(0, 2, 5), 1);
        due.is("19", x.triple(19, 2, 5), 1);
    }

    private void predicates() {
        due.sentence(2, "a PREDICATE 0 .. 7");
        ShaclSteps x = new ShaclSteps();
        due.is("-1", x.triple(1, -1, 5), BAD);
        due.is("8", x.triple(1, 8, 5), BAD);
        due.is("15, a path turned round", x.triple(1, 15, 5), BAD);
        due.is("least", x.triple(1, LEAST, 5), BAD);
        due.is("most", x.triple(1, MOST, 5), BAD);
        due.is("none came", x.count(0), 0);
        due.is("0", x.triple(1, 0, 5), 1);
        due.is("7", x.triple(1, 7, 5), 1);
        x.shape(7);
        x.shape(0);
        due.values("by 7", x, 1, 0, 5);
        due.values("the next node, by 0", x, 2, 1);
    }

    private void objects() {
        due.sentence(2, "TERMS are 0 .. 31");
        ShaclSteps x = new ShaclSteps();
        due.is("-1", x.triple(1, 2, -1), BAD);
        due.is("32", x.triple(1, 2, 32), BAD);
        due.is("63", x.triple(1, 2, 63), BAD);
        due.is("least", x.triple(1, 2, LEAST), BAD);
        due.is("most", x.triple(1, 2, MOST), BAD);
        due.is("none came", x.count(0), 0);
        due.is("0", x.triple(1, 2, 0), 1);
        due.is("31", x.triple(1, 2, 31), 1);
        due.is("19", x.triple(1, 2, 19), 1);
        due.is("20", x.triple(1, 2, 20), 1);
        x.shape(2);
        due.values("all that came", x, 1, 0, 0, 19, 20, 31);
    }

    private void atMost100() {
        due.sentence(2, "at most 100");
        ShaclSteps x = new ShaclSteps();
        for (int i = 0; i < 100; i++) {
            due.is("triple " + (i + 1), x.triple(i / 8, i % 8, 31), 1);
        }
        due.is("a hundred", x.count(0), 100);
        due.is("the 101st", x.triple(19, 7, 0), FULL);
        due.is("the 101st again", x.triple(19, 7, 0), FULL);
        due.is("it did not come", x.drop(19, 7, 0), 0);
        due.is("still a hundred", x.count(0), 100);
    }

    private void isThere() {
        due.sentence(2, "0 when it is there");
        ShaclSteps x = new ShaclSteps();
        due.is("comes", x.triple(19, 7, 31), 1);
        due.is("is there", x.triple(19, 7, 31), 0);
        due.is("is there still", x.triple(19, 7, 31), 0);
        due.is("one", x.count(0), 1);
        due.is("another object", x.triple(19, 7, 30), 1);
        due.is("another predicate", x.triple(19, 6, 31), 1);
        due.is("another subject", x.triple(18, 7, 31), 1);
        due.is("dropped at once", x.drop(19, 7, 31), 1);
        due.is("comes again", x.triple(19, 7, 31), 1);
    }

    private void isThereWhenFull() {
        due.sentence(2, "Of several answers that a call names the first one counts (0 before FULL)");
        ShaclSteps x = Made.with100Triples();
        due.is("the first", x.triple(0, 2, 0), 0);
        due.is("the last", x.triple(3, 2, 3), 0);
        due.is("one that is not there", x.triple(3, 2, 4), FULL);
    }

    private void badWhenFull() {
        due.sentence(2, "Of several answers that a call names the first one counts (BAD before FULL)");
        ShaclSteps x = Made.with100Triples();
        due.is("subject", x.triple(20, 2, 0), BAD);
        due.is("predicate", x.triple(19, 8, 0), BAD);
        due.is("object", x.triple(19, 2, 32), BAD);
    }

    private void roomAfterADrop() {
        due.sentence(2, "FULL (no longer, after a drop)");
        ShaclSteps x = Made.with100Triples();
        due.is("full", x.triple(19, 7, 31), FULL);
        due.is("one goes", x.drop(0, 2, 0), 1);
        due.is("one comes", x.triple(19, 7, 31), 1);
        due.is("full again", x.triple(0, 2, 0), FULL);
        due.is("a hundred", x.count(0), 100);
        x.drop(0, 2, 0);
        due.is("the drop of what is not there makes no room", x.triple(0, 2, 0), FULL);
    }

    private void refusedTriplesChangeNothing() {
        due.sentence(2, "BAD; FULL (and nothing comes)");
        ShaclSteps x = Made.with100Triples();
        x.shape(2);
        x.shape(10);
        x.target(0, 2, 2);
        x.constraint(0, 2, 0, 31);
        String before = Snapshot.of(x);
        x.triple(19, 2, 31);
        x.triple(3, 2, 31);
        x.triple(20, 2, 0);
        x.triple(0, 8, 0);
        x.triple(0, 2, 32);
        due.holds("as before", Snapshot.of(x).equals(before));
    }

    private void isNotThere() {
        due.sentence(3, "0 when it is not there");
        ShaclSteps x = new ShaclSteps();
        due.is("no triples", x.drop(0, 0, 0), 0);
        x.triple(3, 4, 5);
        due.is("another object", x.drop(3, 4, 6), 0);
        due.is("another predicate", x.drop(3, 5, 5), 0);
        due.is("another subject", x.drop(4, 4, 5), 0);
        due.is("turned round", x.drop(5, 4, 3), 0);
        due.is("one is left", x.count(0), 1);
        due.is("goes", x.drop(3, 4, 5), 1);
        due.is("is gone", x.drop(3, 4, 5), 0);
        due.is("not below none", x.count(0), 0);
    }

    private void dropOfWrongOnes() {
        due.sentence(3, "BAD");
        ShaclSteps x = new ShaclSteps();
        x.triple(0, 0, 0);
        x.triple(1, 0, 0);
        x.triple(19, 7, 31);
        due.is("subject -1", x.drop(-1, 0, 0), BAD);
        due.is("subject 20", x.drop(20, 0, 0), BAD);
        due.is("subject 32", x.drop(32, 0, 0), BAD);
        due.is("predicate -1", x.drop(1, -1, 0), BAD);
        due.is("predicate 8, not the next node's 0", x.drop(0, 8, 0), BAD);
        due.is("object -1, not 31", x.drop(19, 7, -1), BAD);
        due.is("object 32, not 0", x.drop(0, 0, 32), BAD);
        for (int far : new int[] {LEAST, MOST}) {
            due.is("far subject", x.drop(far, 0, 0), BAD);
            due.is("far predicate", x.drop(0, far, 0), BAD);
            due.is("far object", x.drop(0, 0, far), BAD);
        }
        due.is("none went", x.count(0), 3);
        due.is("the last goes", x.drop(19, 7, 31), 1);
        due.is("the first goes", x.drop(0, 0, 0), 1);
    }

    private void dropOfOneAlone() {
        due.sentence(3, "A triple goes: 1");
        ShaclSteps x = Made.withShapes(1, 7);
        x.shape(15);
        x.triple(18, 7, 31);
        x.triple(19, 7, 30);
        x.triple(19, 6, 31);
        x.triple(19, 7, 31);
        due.is("goes", x.drop(19, 7, 31), 1);
        due.values("ahead", x, 19, 0, 30);
        due.values("back", x, 31, 1, 18);
        due.is("three are left", x.count(0), 3);
    }

    private void dropOfAll() {
        due.sentence(3, "A triple goes: 1 (down to none)");
        ShaclSteps x = Made.with100Triples();
        for (int i = 99; i >= 0; i--) {
            due.is("goes", x.drop(i / 32, 2, i % 32), 1);
        }
        due.is("none is left", x.count(0), 0);
        x.shape(2);
        due.values("no values", x, 0, 0);
    }

    private void upTo512Calls() {
        due.sentence(2, "An object is used for at most 512 calls after it has been made");
        ShaclSteps x = new ShaclSteps();
        for (int call = 1; call <= 510; call += 2) {
            due.is("call " + call, x.triple(call % 20, 2, call % 32), 1);
            due.is("call " + (call + 1), x.drop(call % 20, 2, call % 32), 1);
        }
        due.is("call 511", x.triple(19, 7, 31), 1);
        due.is("call 512", x.count(0), 1);
    }
}
