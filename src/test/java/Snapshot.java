/** All that an object can be asked, as one text: two equal ones mean that nothing has changed between them. */
final class Snapshot {
    private Snapshot() {
    }

    static String of(ShaclSteps x) {
        StringBuilder text = new StringBuilder();
        for (int what = 0; what < 4; what++) {
            text.append(x.count(what)).append(' ');
        }
        for (int severity = 0; severity < 3; severity++) {
            text.append(x.worst(severity)).append(' ');
        }
        int many = x.run();
        text.append(many).append('\n');
        for (int i = 0; i < many; i++) {
            for (int what = 0; what < 4; what++) {
                text.append(x.result(i, what)).append(' ');
            }
        }
        for (int shape = 0; shape < x.count(1); shape++) {
            for (int i = 0; i < 32; i++) {
                text.append(x.focus(shape, i)).append(' ');
            }
            for (int term = 0; term < 32; term++) {
                text.append(x.fits(term, shape)).append(' ');
                for (int i = 0; x.value(term, shape, i) >= 0; i++) {
                    text.append(x.value(term, shape, i)).append(' ');
                }
            }
        }
        for (int term = 0; term < 32; term++) {
            for (int class0 = 0; class0 < 20; class0++) {
                text.append(x.isOf(term, class0));
            }
        }
        return text.toString();
    }
}
