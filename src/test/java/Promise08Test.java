/** Promise 8: sure answers from the rows of the views in the mask. */
public final class Promise08Test {
    private static final int[] MASKS = {Integer.MIN_VALUE, -8, -1, 0, 1, 2, 3, 4, 5, 6, 7, 8, Integer.MAX_VALUE};
    private static final Due DUE = new Due();

    public static void main(String[] args) {
        emptyQuery();
        wrongInputs();
        noFacts();
        masks();
        unknownsAreApart();
        unknownsAreShared();
        plainTermsAreKept();
        unusedVariables();
        DUE.finish();
    }

    private static void emptyQuery() {
        ViewRewriter x = new ViewRewriter(1, 1, 3, 1);
        for (int mask : MASKS) {
            for (int a = 0; a < 3; a++) {
                for (int b = 0; b < 3; b++) {
                    DUE.is("no atoms, certain(" + mask + "," + a + "," + b + ")", x.certain(mask, a, b), 1);
                }
            }
        }
    }

    private static void wrongInputs() {
        for (int values = 1; values <= 4; values++) {
            ViewRewriter x = new ViewRewriter(1, 1, values, 1);
            for (int mask : MASKS) {
                for (int far : new int[] {Integer.MIN_VALUE, -1, values, 5, Integer.MAX_VALUE}) {
                    DUE.is("bad a " + far, x.certain(mask, far, 0), -1);
                    DUE.is("bad b " + far, x.certain(mask, 0, far), -1);
                    DUE.is("bad both " + far, x.certain(mask, far, far), -1);
                }
                DUE.is("greatest value", x.certain(mask, values - 1, values - 1), 1);
            }
        }
    }

    private static void noFacts() {
        ViewRewriter x = new ViewRewriter(2, 2, 2, 8);
        State.fill(x, 0, 0, 0, 1);
        DUE.is("no rows, no bodies", x.certain(-1, 0, 1), 0);
        State.fill(x, 3, 0, 0, 1);
        DUE.is("a body without rows", x.certain(-1, 0, 1), 0);
        State.fill(x, 2, 1, 0, 1);
        DUE.is("a row of a view without a body", x.certain(-1, 0, 1), 0);
        State.fill(x, 2, 0, 0, 1);
        DUE.is("a row with a body", x.certain(-1, 0, 1), 1);
        DUE.is("turned", x.certain(-1, 1, 0), 0);
        DUE.is("the view is not in the mask", x.certain(2, 0, 1), 0);
        DUE.is("no view in the mask", x.certain(0, 0, 1), 0);
        x.clear(3);
        DUE.is("the body is gone", x.certain(-1, 0, 1), 0);
        State.fill(x, 3, 1, 0, 1);
        DUE.is("the body has another relation", x.certain(-1, 0, 1), 0);
        x.clear(3);
        State.fill(x, 3, 0, 1, 0);
        DUE.is("the body is turned", x.certain(-1, 1, 0), 1);
        DUE.is("the body is turned", x.certain(-1, 0, 1), 0);
    }

    /** View v answers relation v; the query joins all three, so only masks with the three low bits serve. */
    private static void masks() {
        ViewRewriter x = new ViewRewriter(3, 3, 4, 8);
        State.fill(x, 0, 0, 0, 2, 1, 2, 3, 2, 3, 1);
        for (int v = 0; v < 3; v++) {
            State.fill(x, 3 + v, v, 0, 1);
            State.fill(x, 2, v, v, v + 1);
        }
        for (int mask : MASKS) {
            DUE.is("certain(" + mask + ",0,3)", x.certain(mask, 0, 3), (mask & 7) == 7 ? 1 : 0);
        }
        ViewRewriter y = new ViewRewriter(3, 1, 4, 8);
        State.fill(y, 0, 0, 0, 1);
        State.fill(y, 3, 0, 0, 1);
        State.fill(y, 2, 0, 0, 1);
        for (int mask : MASKS) {
            DUE.is("one view, certain(" + mask + ",0,1)", y.certain(mask, 0, 1), (mask & 1) == 1 ? 1 : 0);
        }
    }

    /** The unknown end of one row's fact is not the unknown start of another row's. */
    private static void unknownsAreApart() {
        ViewRewriter x = new ViewRewriter(2, 2, 4, 8);
        State.fill(x, 0, 0, 0, 2, 1, 2, 1);
        State.fill(x, 3, 0, 0, 2);
        State.fill(x, 4, 1, 2, 1);
        State.fill(x, 2, 0, 0, 1, 1, 0, 1);
        DUE.is("unknowns of two views", x.certain(3, 0, 1), 0);
        x.clear(4);
        x.clear(3);
        State.fill(x, 3, 0, 0, 2, 1, 3, 1);
        DUE.is("two unknowns of one row", x.certain(3, 0, 1), 0);
        State.fill(x, 2, 0, 0, 2, 0, 2, 1, 0, 3, 1);
        DUE.is("unknowns of rows of one view", x.certain(3, 0, 1), 0);
        x.clear(0);
        State.fill(x, 0, 0, 0, 2, 0, 3, 2, 1, 4, 1);
        DUE.is("each by itself", x.certain(3, 0, 1), 1);
        x.clear(0);
        x.clear(3);
        State.fill(x, 3, 0, 0, 2, 0, 1, 2);
        State.fill(x, 0, 0, 0, 2, 0, 1, 2);
        DUE.is("both ends of one row", x.certain(1, 0, 1), 1);
        DUE.is("both ends through two rows", x.certain(1, 0, 3), 0);
        DUE.is("one end twice", x.certain(1, 3, 3), 1);
    }

    /** All eight rows have their own unknowns, and one row's facts share theirs. */
    private static void unknownsAreShared() {
        ViewRewriter x = new ViewRewriter(1, 1, 4, 8);
        State.fill(x, 0, 0, 0, 2, 0, 2, 3, 0, 3, 1);
        State.fill(x, 3, 0, 0, 2, 0, 2, 3, 0, 3, 1);
        for (int i = 0; i < 8; i++) {
            State.fill(x, 2, 0, i / 4, i % 4);
        }
        for (int a = 0; a < 4; a++) {
            for (int b = 0; b < 4; b++) {
                DUE.is("path through " + a + "," + b, x.certain(1, a, b), a < 2 ? 1 : 0);
            }
        }
        x.drop(0, 0, 3, 1);
        DUE.is("half a path leaves the head's end free", x.certain(1, 0, 3), 1);
        State.fill(x, 0, 0, 3, 4);
        DUE.is("a path through unknowns to any value", x.certain(1, 0, 3), 1);
    }

    private static void plainTermsAreKept() {
        ViewRewriter x = new ViewRewriter(1, 1, 2, 8);
        State.fill(x, 0, 0, 0, 2, 0, 2, 1);
        State.fill(x, 3, 0, 0, 1);
        State.fill(x, 2, 0, 0, 1, 0, 1, 0);
        DUE.is("two rows in a line", x.certain(1, 0, 0), 1);
        DUE.is("two rows in a line", x.certain(1, 1, 1), 1);
        DUE.is("an odd way", x.certain(1, 0, 1), 0);
        State.fill(x, 2, 0, 1, 1);
        DUE.is("with a loop", x.certain(1, 0, 1), 1);
        x.clear(0);
        State.fill(x, 0, 0, 2, 2);
        DUE.is("a loop away from the head", x.certain(1, 0, 0), 1);
        x.drop(2, 0, 1, 1);
        DUE.is("no loop", x.certain(1, 0, 0), 0);
        State.fill(x, 3, 0, 3, 3);
        DUE.is("a loop at an unknown", x.certain(1, 0, 0), 1);
    }

    /** The candidate and its head play no part, and variables without atoms bind nothing. */
    private static void unusedVariables() {
        ViewRewriter x = new ViewRewriter(1, 1, 4, 8);
        State.fill(x, 0, 0, 4, 3);
        State.fill(x, 3, 0, 2, 3);
        State.fill(x, 2, 0, 0, 0);
        for (int a = 0; a < 4; a++) {
            DUE.is("heads without atoms", x.certain(1, a, 3 - a), 1);
        }
        State.fill(x, 1, 0, 0, 0);
        x.head(4, 4);
        DUE.is("the candidate plays no part", x.certain(1, 1, 2), 1);
        String before = State.of(x);
        x.certain(1, 1, 2);
        DUE.holds("certain changes nothing", State.of(x).equals(before));
    }
}
