/** What can be seen of a ViewRewriter by asking, to tell whether a call changed it. */
final class State {
    /** The head, sizes, triples, and the six questions that reason: each a part that can be asked for alone. */
    static final int PARTS = 9;

    private static int refused = 0;

    private State() {
    }

    /** The answers of all questions. */
    static String of(ViewRewriter r) {
        StringBuilder seen = new StringBuilder();
        for (int part = 0; part < PARTS; part++) {
            seen.append(part(r, part)).append('\n');
        }
        return seen.toString();
    }

    static String part(ViewRewriter r, int part) {
        switch (part) {
            case 0:
                return "head " + r.headAt(-1) + ' ' + r.headAt(0) + ' ' + r.headAt(1) + ' ' + r.headAt(2);
            case 1:
                return sizes(r);
            case 2:
                return sections(r);
            case 3:
                return certain(r);
            case 4:
                return rewritable(r);
            case 5:
                return candidateHas(r);
            case 6:
                return "sound " + r.sound();
            case 7:
                return "complete " + r.complete();
            default:
                return "coreSize " + r.coreSize();
        }
    }

    private static String sizes(ViewRewriter r) {
        StringBuilder seen = new StringBuilder("sizes");
        for (int section = -1; section <= 6; section++) {
            seen.append(' ').append(r.size(section));
        }
        return seen.toString();
    }

    private static String sections(ViewRewriter r) {
        StringBuilder seen = new StringBuilder();
        for (int section = -1; section <= 6; section++) {
            seen.append(section(r, section)).append('\n');
        }
        return seen.toString();
    }

    static String section(ViewRewriter r, int section) {
        StringBuilder seen = new StringBuilder("section ").append(section).append(':');
        for (int k = -1; k <= 3; k++) {
            for (int x = -1; x <= 5; x++) {
                for (int y = -1; y <= 5; y++) {
                    int has = r.has(section, k, x, y);
                    seen.append(has == ViewRewriter.BAD ? "b" : has == ViewRewriter.YES ? "y" : "n");
                }
            }
        }
        return seen.toString();
    }

    static String certain(ViewRewriter r) {
        StringBuilder seen = new StringBuilder("certain");
        for (int mask = -1; mask <= 8; mask++) {
            for (int i = 0; i < 36; i++) {
                seen.append(' ').append(r.certain(mask, i / 6 - 1, i % 6 - 1));
            }
        }
        return seen.toString();
    }

    static String rewritable(ViewRewriter r) {
        StringBuilder seen = new StringBuilder("rewritable");
        for (int mask = -1; mask <= 8; mask++) {
            seen.append(' ').append(r.rewritable(mask));
        }
        return seen.toString();
    }

    static String candidateHas(ViewRewriter r) {
        StringBuilder seen = new StringBuilder("candidateHas");
        for (int i = 0; i < 36; i++) {
            seen.append(' ').append(r.candidateHas(i / 6 - 1, i % 6 - 1));
        }
        return seen.toString();
    }

    /** Puts all triples, given as k,x,y after each other, into the section; a put that does not answer YES fails the test. */
    static void fill(ViewRewriter r, int section, int... triples) {
        for (int i = 0; i + 2 < triples.length; i += 3) {
            int answer = r.put(section, triples[i], triples[i + 1], triples[i + 2]);
            if (answer != ViewRewriter.YES) {
                refused++;
                System.out.println("  while filling, put(" + section + "," + triples[i] + "," + triples[i + 1] + ","
                        + triples[i + 2] + ") answered " + answer);
            }
        }
    }

    static int refused() {
        return refused;
    }
}
