/** For each sentence of the document that names a boundary case a test of its own, promise by promise. */
public final class BoundariesTest {
    private BoundariesTest() {
    }

    public static void main(String[] args) {
        Due due = new Due();
        new BoundariesOfTriples(due).all();
        new BoundariesOfShapes(due).all();
        new BoundariesOfKinds(due).all();
        new BoundariesOfResults(due).all();
        new BoundariesOfQuestions(due).all();
        for (int promise = 1; promise <= 15; promise++) {
            due.holds("promise " + promise + " has tests", due.sentencesOf(promise) > 0);
        }
        due.end();
    }
}
