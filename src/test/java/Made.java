/** Objects in states that several tests start from. */
final class Made {
    private Made() {
    }

    static ShaclSteps withShapes(int many, int path) {
        ShaclSteps x = new ShaclSteps();
        for (int i = 0; i < many; i++) {
            x.shape(path);
        }
        return x;
    }

    /** An object whose shape 0 has path 2 and is for node 0, which leads by 2 to the values. */
    static ShaclSteps withValues(int... values) {
        ShaclSteps x = withShapes(1, 2);
        x.target(0, 0, 0);
        for (int value : values) {
            x.triple(0, 2, value);
        }
        return x;
    }

    static ShaclSteps with100Triples() {
        ShaclSteps x = new ShaclSteps();
        for (int i = 0; i < 100; i++) {
            x.triple(i / 32, 2, i % 32);
        }
        return x;
    }

    static ShaclSteps with24Targets() {
        ShaclSteps x = withShapes(2, -1);
        for (int i = 0; i < 24; i++) {
            x.target(0, 0, i);
        }
        return x;
    }

    static ShaclSteps with40Constraints() {
        ShaclSteps x = withShapes(2, -1);
        for (int i = 0; i < 40; i++) {
            x.constraint(0, 9, 0, 0);
        }
        return x;
    }

    /** Ten terms with values that are one of none: 25 results for each of them. */
    static ShaclSteps with250Results() {
        ShaclSteps x = withShapes(1, 2);
        for (int s = 0; s < 10; s++) {
            x.target(0, 0, s);
            for (int o = 0; o < 5; o++) {
                x.triple(s, 2, 20 + o);
            }
        }
        for (int c = 0; c < 5; c++) {
            x.constraint(0, 4, 0, 0);
        }
        return x;
    }

    /** As with 250 results, and one more: that of term 31 for shape 1, which has severity 0. */
    static ShaclSteps with251Results() {
        ShaclSteps x = with250Results();
        x.shape(-1);
        x.severity(1, 0);
        x.constraint(1, 1, 0, 0);
        x.target(1, 0, 31);
        return x;
    }
}
