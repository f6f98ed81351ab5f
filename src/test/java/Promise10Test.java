/** Promise 10: the candidate over the loaded rows of all views. */
public final class Promise10Test {
    private static final Due DUE = new Due();

    public static void main(String[] args) {
        noAtoms();
        wrongInputs();
        joins();
        heads();
        headAwayFromZero();
        otherPartsPlayNone();
        DUE.finish();
    }

    private static void noAtoms() {
        ViewRewriter x = new ViewRewriter(1, 1, 4, 8);
        for (int h0 = 0; h0 < 5; h0++) {
            for (int h1 = 0; h1 < 5; h1++) {
                x.head(h0, h1);
                for (int a = 0; a < 4; a++) {
                    for (int b = 0; b < 4; b++) {
                        DUE.is("no atoms, head " + h0 + "," + h1 + " at " + a + "," + b,
                                x.candidateHas(a, b), h0 == h1 && a != b ? 0 : 1);
                    }
                }
            }
        }
    }

    private static void wrongInputs() {
        for (int values = 1; values <= 4; values++) {
            ViewRewriter x = new ViewRewriter(1, 1, values, 8);
            for (int far : new int[] {Integer.MIN_VALUE, -1, values, 5, Integer.MAX_VALUE}) {
                DUE.is("bad a " + far, x.candidateHas(far, 0), -1);
                DUE.is("bad b " + far, x.candidateHas(0, far), -1);
            }
            x.head(2, 2);
            DUE.is("bad a, one head", x.candidateHas(values, 0), -1);
            DUE.is("bad b, one head", x.candidateHas(0, -1), -1);
            DUE.is("greatest value", x.candidateHas(values - 1, values - 1), 1);
        }
    }

    private static void joins() {
        ViewRewriter x = new ViewRewriter(1, 3, 4, 8);
        State.fill(x, 1, 0, 0, 2, 1, 2, 1);
        DUE.is("no rows", x.candidateHas(0, 0), 0);
        State.fill(x, 2, 0, 0, 1, 1, 1, 3, 1, 2, 2, 2, 1, 2);
        DUE.is("joined", x.candidateHas(0, 3), 1);
        DUE.is("turned", x.candidateHas(3, 0), 0);
        DUE.is("not joined", x.candidateHas(0, 2), 0);
        DUE.is("a row of another view does not serve", x.candidateHas(0, 1), 0);
        State.fill(x, 1, 2, 2, 3, 1, 3, 4);
        DUE.is("four atoms, five variables", x.candidateHas(0, 3), 1);
        x.drop(2, 1, 2, 2);
        DUE.is("the last atom has no row", x.candidateHas(0, 3), 0);
        State.fill(x, 2, 1, 2, 0);
        DUE.is("the last atom has another row", x.candidateHas(0, 3), 1);
        x.clear(1);
        State.fill(x, 1, 0, 3, 4);
        DUE.is("heads without atoms", x.candidateHas(2, 3), 1);
        State.fill(x, 1, 0, 4, 4);
        DUE.is("no loop", x.candidateHas(2, 3), 0);
        State.fill(x, 2, 0, 1, 1);
        DUE.is("variables with one image", x.candidateHas(2, 3), 1);
    }

    private static void heads() {
        ViewRewriter x = new ViewRewriter(1, 2, 4, 8);
        State.fill(x, 1, 0, 3, 4);
        State.fill(x, 2, 0, 0, 1, 0, 2, 2, 1, 3, 3);
        x.head(3, 4);
        DUE.is("head (3,4)", x.candidateHas(0, 1), 1);
        DUE.is("head (3,4)", x.candidateHas(1, 0), 0);
        x.head(4, 3);
        DUE.is("head (4,3)", x.candidateHas(0, 1), 0);
        DUE.is("head (4,3)", x.candidateHas(1, 0), 1);
        x.head(3, 3);
        DUE.is("head (3,3)", x.candidateHas(0, 0), 1);
        DUE.is("head (3,3)", x.candidateHas(1, 1), 0);
        DUE.is("head (3,3)", x.candidateHas(0, 1), 0);
        DUE.is("head (3,3)", x.candidateHas(2, 2), 1);
        x.head(4, 4);
        DUE.is("head (4,4)", x.candidateHas(1, 1), 1);
        DUE.is("head (4,4)", x.candidateHas(0, 0), 0);
        x.head(3, 0);
        DUE.is("head (3,0), 0 is free", x.candidateHas(0, 3), 1);
        DUE.is("head (3,0), 3 is not", x.candidateHas(1, 3), 0);
    }

    /** Variables 0 and 1 are bound by the head only while they stand in it. */
    private static void headAwayFromZero() {
        ViewRewriter x = new ViewRewriter(1, 1, 4, 8);
        State.fill(x, 1, 0, 0, 1, 0, 1, 3);
        State.fill(x, 2, 0, 2, 3, 0, 3, 1);
        DUE.is("head (0,1)", x.candidateHas(0, 0), 0);
        DUE.is("head (0,1)", x.candidateHas(2, 3), 1);
        DUE.is("head (0,1), no second row", x.candidateHas(3, 1), 0);
        DUE.is("head (0,1)", x.candidateHas(0, 0), 0);
        x.head(3, 4);
        DUE.is("head (3,4), 0 and 1 are free", x.candidateHas(1, 0), 1);
        DUE.is("head (3,4), no such end", x.candidateHas(3, 0), 0);
    }

    private static void otherPartsPlayNone() {
        ViewRewriter x = new ViewRewriter(1, 1, 2, 8);
        State.fill(x, 1, 0, 0, 1);
        State.fill(x, 2, 0, 0, 1);
        DUE.is("a view with an empty body", x.candidateHas(0, 1), 1);
        State.fill(x, 3, 0, 2, 2);
        State.fill(x, 0, 0, 1, 1);
        String before = State.of(x);
        DUE.is("whatever body and query", x.candidateHas(0, 1), 1);
        DUE.is("whatever body and query", x.candidateHas(1, 1), 0);
        DUE.holds("candidateHas changes nothing", State.of(x).equals(before));
    }
}
