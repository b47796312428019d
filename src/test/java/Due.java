import java.util.LinkedHashMap;
import java.util.Map;

/** Counts and prints the answers that are not as due. */
final class Due {
    private static final int NO = -2;

    private final Map<String, Integer> askedUnder = new LinkedHashMap<>();
    private String sentence = "";
    private int asked = 0;
    private int wrong = 0;

    /** Names the promise, and quotes the sentence of the document, that the answers from here on are for. */
    void sentence(int promise, String words) {
        sentence = "Promise " + promise + ", \"" + words + "\": ";
        askedUnder.merge(sentence, 0, Integer::sum);
    }

    void is(String what, int got, int want) {
        asked++;
        askedUnder.merge(sentence, 1, Integer::sum);
        if (got != want) {
            wrong++;
            System.out.println(sentence + what + " answered " + got + ", due is " + want);
        }
    }

    void holds(String what, boolean holds) {
        is(what, holds ? 1 : 0, 1);
    }

    /** These terms, and no more, are those that a shape is for. */
    void foci(String what, ShaclSteps x, int shape, int... terms) {
        for (int i = 0; i < terms.length; i++) {
            is(what + ": focus " + i, x.focus(shape, i), terms[i]);
        }
        is(what + ": no more foci", x.focus(shape, terms.length), NO);
    }

    /** These terms, and no more, are a term's values for a shape. */
    void values(String what, ShaclSteps x, int term, int shape, int... terms) {
        for (int i = 0; i < terms.length; i++) {
            is(what + ": value " + i, x.value(term, shape, i), terms[i]);
        }
        is(what + ": no more values", x.value(term, shape, terms.length), NO);
    }

    /** These rows of focus, shape, constraint and value, and no more, are the results. */
    void results(String what, ShaclSteps x, int[]... rows) {
        is(what + ": run", x.run(), rows.length);
        for (int i = 0; i < rows.length; i++) {
            for (int part = 0; part < 4; part++) {
                is(what + ": result " + i + ", " + part, x.result(i, part), rows[i][part]);
            }
        }
        is(what + ": no more", x.result(rows.length, 0), NO);
    }

    /** All results are of node 0 and a constraint of shape 0, with these values. */
    void faults(String what, ShaclSteps x, int constraint, int... values) {
        int[][] rows = new int[values.length][];
        for (int i = 0; i < values.length; i++) {
            rows[i] = new int[] {0, 0, constraint, values[i]};
        }
        results(what, x, rows);
        is(what + ": fits", x.fits(0, 0), values.length == 0 ? 1 : 0);
    }

    /** Node 0 with these values, of which one constraint finds fault with those. */
    void oneConstraint(String what, int kind, int a, int b, int[] values, int... faults) {
        ShaclSteps x = Made.withValues(values);
        x.constraint(0, kind, a, b);
        faults(what, x, 0, faults);
    }

    int wrong() {
        return wrong;
    }

    /** How many sentences were named for a promise. */
    int sentencesOf(int promise) {
        int many = 0;
        for (String s : askedUnder.keySet()) {
            many += s.startsWith("Promise " + promise + ",") ? 1 : 0;
        }
        return many;
    }

    void end() {
        for (Map.Entry<String, Integer> e : askedUnder.entrySet()) {
            if (e.getValue() == 0) {
                wrong++;
                System.out.println(e.getKey() + "nothing was looked at");
            }
        }
        System.out.println(asked + " answers looked at, " + wrong + " not as due");
        if (wrong != 0 || asked == 0) {
            System.exit(1);
        }
    }
}
