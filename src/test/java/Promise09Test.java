/** Promise 9: whether any rows could give an answer through the views in the mask. */
public final class Promise09Test {
    private static final int[] MASKS = {Integer.MIN_VALUE, -8, -1, 0, 1, 2, 3, 4, 5, 6, 7, 8, Integer.MAX_VALUE};
    private static final Due DUE = new Due();

    public static void main(String[] args) {
        masks();
        headsFallTogether();
        unknowns();
        rowsPlayNoPart();
        DUE.finish();
    }

    private static void masks() {
        ViewRewriter x = new ViewRewriter(3, 3, 4, 8);
        for (int mask : MASKS) {
            DUE.is("no query atoms, mask " + mask, x.rewritable(mask), 1);
        }
        State.fill(x, 0, 0, 0, 2, 1, 2, 3, 2, 3, 1);
        for (int mask : MASKS) {
            DUE.is("no bodies, mask " + mask, x.rewritable(mask), 0);
        }
        for (int v = 0; v < 3; v++) {
            State.fill(x, 3 + v, v, 0, 1);
        }
        for (int mask : MASKS) {
            DUE.is("all three views, mask " + mask, x.rewritable(mask), (mask & 7) == 7 ? 1 : 0);
        }
        ViewRewriter y = new ViewRewriter(1, 2, 1, 1);
        State.fill(y, 0, 0, 0, 1);
        State.fill(y, 4, 0, 0, 1);
        for (int mask : MASKS) {
            DUE.is("the second view, mask " + mask, y.rewritable(mask), (mask & 2) == 2 ? 1 : 0);
        }
    }

    private static void headsFallTogether() {
        ViewRewriter x = new ViewRewriter(1, 1, 4, 8);
        State.fill(x, 0, 0, 0, 1, 0, 1, 0, 0, 0, 0);
        State.fill(x, 3, 0, 0, 1);
        DUE.is("one loop takes all of it", x.rewritable(1), 1);
        x.clear(3);
        State.fill(x, 3, 0, 0, 2);
        DUE.is("an end that is hidden", x.rewritable(1), 0);
        x.clear(0);
        State.fill(x, 0, 0, 0, 2, 0, 1, 3);
        DUE.is("two ends that may be hidden", x.rewritable(1), 1);
        State.fill(x, 0, 0, 2, 3);
        DUE.is("a hidden end goes no further", x.rewritable(1), 0);
    }

    private static void unknowns() {
        ViewRewriter x = new ViewRewriter(2, 3, 4, 8);
        State.fill(x, 0, 0, 0, 2, 1, 2, 1);
        State.fill(x, 3, 0, 0, 2);
        State.fill(x, 4, 1, 2, 1);
        DUE.is("unknowns of two views", x.rewritable(-1), 0);
        State.fill(x, 4, 0, 0, 3);
        DUE.is("two unknowns of one view", x.rewritable(-1), 0);
        State.fill(x, 5, 0, 0, 3, 1, 3, 1);
        DUE.is("one unknown of the third view", x.rewritable(-1), 1);
        DUE.is("without the third view", x.rewritable(3), 0);
        DUE.is("the third view alone", x.rewritable(4), 1);
    }

    private static void rowsPlayNoPart() {
        ViewRewriter x = new ViewRewriter(1, 1, 4, 8);
        State.fill(x, 0, 0, 0, 2, 0, 2, 1);
        State.fill(x, 3, 0, 0, 2, 0, 2, 3);
        for (int i = 0; i < 8; i++) {
            DUE.is(i + " rows", x.rewritable(1), 0);
            State.fill(x, 2, 0, i / 4, i % 4);
        }
        State.fill(x, 1, 0, 0, 1);
        x.head(2, 2);
        DUE.is("the candidate plays no part", x.rewritable(1), 0);
        State.fill(x, 3, 0, 3, 1);
        DUE.is("a path of three is not a path of two", x.rewritable(1), 0);
        x.clear(2);
        x.drop(3, 0, 2, 3);
        State.fill(x, 3, 0, 2, 1);
        String before = State.of(x);
        DUE.is("the path of two", x.rewritable(1), 1);
        DUE.holds("rewritable changes nothing", State.of(x).equals(before));
    }
}
