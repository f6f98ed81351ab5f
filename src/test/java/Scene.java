/** Objects with something in every section, for tests that look at all of them. */
final class Scene {
    /** Three relations, three views, four values, eight rows: sections 0..5, each to its limit. */
    private static final int[][] FULL = {
        {0, 0, 2, 1, 2, 3, 0, 3, 4, 1, 4, 1},
        {0, 0, 3, 0, 3, 1, 1, 3, 2, 2, 4, 4},
        {0, 0, 1, 0, 1, 2, 1, 2, 3, 2, 3, 3, 1, 0, 0, 2, 1, 0, 0, 2, 2, 0, 3, 0},
        {0, 0, 2, 1, 2, 1, 2, 3, 3},
        {0, 0, 1, 1, 1, 0, 2, 2, 1},
        {1, 2, 1, 0, 3, 0, 2, 0, 0},
    };
    private static final int[] LIMITS = {4, 4, 8, 3, 3, 3};

    private Scene() {
    }

    static int limit(int section) {
        return LIMITS[section];
    }

    /** The triples of a section of the full scene, k,x,y after each other. */
    static int[] triples(int section) {
        return FULL[section].clone();
    }

    static ViewRewriter empty() {
        return new ViewRewriter(3, 3, 4, 8);
    }

    /** As many triples in each section as given, but no more than it can hold, and the head (3,2). */
    static ViewRewriter holding(int most) {
        ViewRewriter r = empty();
        for (int section = 0; section < FULL.length; section++) {
            fill(r, section, Math.min(most, LIMITS[section]));
        }
        r.head(3, 2);
        return r;
    }

    static ViewRewriter full() {
        return holding(8);
    }

    /** All but the query as in the full scene; the query can be made smaller by half. */
    static ViewRewriter foldable() {
        ViewRewriter r = full();
        r.clear(0);
        State.fill(r, 0, 0, 0, 2, 1, 2, 1, 0, 0, 3, 1, 4, 1);
        return r;
    }

    /** Little in each section, but what is there fits: most questions that reason answer YES. */
    static ViewRewriter answering(int h0, int h1) {
        ViewRewriter r = empty();
        State.fill(r, 0, 0, 0, 1);
        State.fill(r, 1, 0, h0, h1);
        State.fill(r, 2, 0, 0, 1, 0, 2, 2, 1, 1, 0);
        State.fill(r, 3, 0, 0, 1);
        State.fill(r, 4, 0, 1, 0);
        r.head(h0, h1);
        return r;
    }

    /** Objects made anew, from an empty one to full ones; the same ones in the same order each time. */
    static ViewRewriter[] all() {
        return new ViewRewriter[] {empty(), holding(1), holding(2), holding(3), full(), foldable(), answering(0, 1),
            answering(2, 2)};
    }

    static void fill(ViewRewriter r, int section, int amount) {
        for (int i = 0; i < amount; i++) {
            State.fill(r, section, FULL[section][3 * i], FULL[section][3 * i + 1], FULL[section][3 * i + 2]);
        }
    }
}
