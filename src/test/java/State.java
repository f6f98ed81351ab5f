/** Everything of a ViewRewriter that can be seen without the six reasoning questions, to tell whether a call changed it. */
final class State {
    private State() {
    }

    static String of(ViewRewriter r) {
        StringBuilder seen = new StringBuilder();
        for (int section = -1; section <= 6; section++) {
            seen.append(section).append('#').append(r.size(section)).append(':');
            for (int k = -1; k <= 3; k++) {
                for (int x = -1; x <= 5; x++) {
                    for (int y = -1; y <= 5; y++) {
                        int has = r.has(section, k, x, y);
                        seen.append(has == ViewRewriter.BAD ? "b" : has == ViewRewriter.YES ? "y" : "n");
                    }
                }
            }
            seen.append('\n');
        }
        return seen.append("head ").append(r.headAt(0)).append(' ').append(r.headAt(1)).toString();
    }

    /** Puts all triples, given as k,x,y after each other, into the section. */
    static void fill(ViewRewriter r, int section, int... triples) {
        for (int i = 0; i + 2 < triples.length; i += 3) {
            int answer = r.put(section, triples[i], triples[i + 1], triples[i + 2]);
            if (answer != ViewRewriter.YES) {
                throw new IllegalStateException("put in section " + section + " answered " + answer);
            }
        }
    }
}
