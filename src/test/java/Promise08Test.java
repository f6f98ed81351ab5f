/** Promise 8: sure answers from the rows. */
public final class Promise08Test {
    private static final Due DUE = new Due();

    public static void main(String[] args) {
        refusals();
        sureAnswers();
        noQueryAtoms();
        noFacts();
        equalValues();
        candidatePlaysNoPart();
        changesNothing();
        DUE.finish();
    }

    private static void refusals() {
        DUE.says("It answers BAD if a or b is not a value, whatever the mask.");
        for (int values = 1; values <= 4; values++) {
            ViewRewriter none = new ViewRewriter(1, 1, values, 1);
            ViewRewriter some = new ViewRewriter(1, 1, values, 1);
            State.fill(some, 0, 0, 3, 4);
            State.fill(some, 2, 0, 0, 0);
            State.fill(some, 3, 0, 0, 0);
            for (int mask : new int[] {Integer.MIN_VALUE, -2, -1, 0, 1, 2, 7, 8, Integer.MAX_VALUE}) {
                for (int number : Numbers.outside(values)) {
                    String of = " " + number + ", mask " + mask + ", values " + values;
                    DUE.is("a" + of, none.certain(mask, number, 0), -1);
                    DUE.is("b" + of, none.certain(mask, values - 1, number), -1);
                    DUE.is("a and b" + of, none.certain(mask, number, number), -1);
                    DUE.is("a, with facts" + of, some.certain(mask, number, values - 1), -1);
                    DUE.is("b, with facts" + of, some.certain(mask, 0, number), -1);
                }
                DUE.is("greatest value, mask " + mask, none.certain(mask, values - 1, values - 1), 1);
                DUE.is("greatest value, mask " + mask, some.certain(mask, values - 1, values - 1), mask & 1);
            }
        }
    }

    private static void sureAnswers() {
        DUE.says("Otherwise let T be the triples of ROWS whose view is in the mask, the plain terms being the values"
                + " 0..values-1: the answer is YES if the query matches the facts of T at (a,b), else NO.");
        viewsInTheMask();
        rowsInALine();
        pathThroughUnknowns();
        unknownsOfRows();
    }

    /** View v answers relation v; the query joins all three, so only masks with the three low bits serve. */
    private static void viewsInTheMask() {
        ViewRewriter r = new ViewRewriter(3, 3, 4, 8);
        State.fill(r, 0, 0, 0, 2, 1, 2, 3, 2, 3, 1);
        for (int v = 0; v < 3; v++) {
            State.fill(r, 3 + v, v, 0, 1);
            State.fill(r, 2, v, v, v + 1);
        }
        for (int mask = -8; mask <= 15; mask++) {
            for (int i = 0; i < 16; i++) {
                DUE.is("certain(" + mask + "," + i / 4 + "," + i % 4 + ")", r.certain(mask, i / 4, i % 4),
                        (mask & 7) == 7 && i == 3 ? 1 : 0);
            }
        }
    }

    private static void rowsInALine() {
        ViewRewriter r = new ViewRewriter(1, 1, 2, 8);
        State.fill(r, 0, 0, 0, 2, 0, 2, 1);
        State.fill(r, 3, 0, 0, 1);
        State.fill(r, 2, 0, 0, 1, 0, 1, 0);
        DUE.is("two rows in a line", r.certain(1, 0, 0), 1);
        DUE.is("two rows in a line", r.certain(1, 1, 1), 1);
        DUE.is("an odd way", r.certain(1, 0, 1), 0);
        State.fill(r, 2, 0, 1, 1);
        DUE.is("with a loop", r.certain(1, 0, 1), 1);
        r.clear(0);
        State.fill(r, 0, 0, 2, 2);
        DUE.is("a loop away from the head", r.certain(1, 0, 0), 1);
        r.drop(2, 0, 1, 1);
        DUE.is("no loop", r.certain(1, 0, 0), 0);
        State.fill(r, 3, 0, 3, 3);
        DUE.is("a loop at an unknown", r.certain(1, 0, 0), 1);
    }

    /** All eight rows have their own unknowns, and one row's facts share theirs. */
    private static void pathThroughUnknowns() {
        ViewRewriter r = new ViewRewriter(1, 1, 4, 8);
        State.fill(r, 0, 0, 0, 2, 0, 2, 3, 0, 3, 1);
        State.fill(r, 3, 0, 0, 2, 0, 2, 3, 0, 3, 1);
        for (int i = 0; i < 8; i++) {
            State.fill(r, 2, 0, i / 4, i % 4);
        }
        for (int i = 0; i < 16; i++) {
            DUE.is("path " + i / 4 + "," + i % 4, r.certain(1, i / 4, i % 4), i < 8 ? 1 : 0);
        }
        r.drop(0, 0, 3, 1);
        DUE.is("half a path leaves the head's end free", r.certain(1, 0, 3), 1);
        State.fill(r, 0, 0, 3, 4);
        DUE.is("a path through unknowns to any value", r.certain(1, 0, 3), 1);
    }

    private static void unknownsOfRows() {
        ViewRewriter r = new ViewRewriter(2, 2, 4, 8);
        State.fill(r, 0, 0, 0, 2, 1, 2, 1);
        State.fill(r, 3, 0, 0, 2);
        State.fill(r, 4, 1, 2, 1);
        State.fill(r, 2, 0, 0, 1, 1, 0, 1);
        DUE.is("unknowns of two views", r.certain(3, 0, 1), 0);
        r.clear(4);
        r.clear(3);
        State.fill(r, 3, 0, 0, 2, 1, 3, 1);
        State.fill(r, 2, 0, 0, 2, 0, 2, 1, 0, 3, 1);
        DUE.is("unknowns of rows of one view", r.certain(3, 0, 1), 0);
        r.clear(0);
        State.fill(r, 0, 0, 0, 2, 0, 3, 2, 1, 4, 1);
        DUE.is("each by itself", r.certain(3, 0, 1), 1);
        r.clear(0);
        r.clear(3);
        State.fill(r, 3, 0, 0, 2, 0, 1, 2);
        State.fill(r, 0, 0, 0, 2, 0, 1, 2);
        DUE.is("both ends of one row", r.certain(1, 0, 1), 1);
        DUE.is("both ends through two rows", r.certain(1, 0, 3), 0);
        DUE.is("one end twice", r.certain(1, 3, 3), 1);
    }

    private static void noQueryAtoms() {
        DUE.says("with no query atoms the answer is YES, for every mask;");
        for (Shape shape : Shape.all()) {
            ViewRewriter r = shape.make();
            for (int mask : Numbers.wide()) {
                DUE.is(shape + " certain(" + mask + ",0,0)", r.certain(mask, 0, 0), 1);
                DUE.is(shape + " certain(" + mask + ") of the greatest", r.certain(mask, 0, shape.values - 1), 1);
            }
        }
        ViewRewriter r = Scene.full();
        r.clear(0);
        for (int i = 0; i < 16; i++) {
            for (int mask = -1; mask < 8; mask++) {
                DUE.is("all else full, certain(" + mask + "," + i / 4 + "," + i % 4 + ")", r.certain(mask, i / 4, i % 4), 1);
            }
        }
    }

    private static void noFacts() {
        DUE.says("with at least one query atom and no facts (for example when no view is in the mask, or no view in the mask has"
                + " both a row and a body atom) the answer is NO.");
        for (int code = 0; code < 25; code++) {
            ViewRewriter r = new ViewRewriter(1, 3, 2, 8);
            State.fill(r, 0, 0, code / 5, code % 5);
            String query = "query atom (" + code / 5 + "," + code % 5 + "), ";
            DUE.is(query + "no rows and no bodies", r.certain(-1, 0, 0), 0);
            State.fill(r, 3, 0, 0, 0);
            DUE.is(query + "a body without a row", r.certain(-1, 0, 0), 0);
            State.fill(r, 2, 1, 0, 0);
            DUE.is(query + "a row without a body", r.certain(-1, 0, 0), 0);
            State.fill(r, 5, 0, 0, 0);
            State.fill(r, 2, 2, 0, 0);
            DUE.is(query + "a view with both", r.certain(-1, 0, 0), 1);
            DUE.is(query + "a view with both, not in the mask", r.certain(3, 0, 0), 0);
            DUE.is(query + "no view in the mask", r.certain(0, 0, 0), 0);
            DUE.is(query + "no view in the mask", r.certain(8, 0, 0), 0);
            r.clear(5);
            DUE.is(query + "the body is gone", r.certain(-1, 0, 0), 0);
        }
    }

    private static void equalValues() {
        DUE.says("a = b is allowed.");
        ViewRewriter r = new ViewRewriter(1, 1, 4, 8);
        State.fill(r, 0, 0, 0, 1);
        State.fill(r, 3, 0, 0, 1);
        for (int a = 0; a < 4; a++) {
            DUE.is("no row, a = b = " + a, r.certain(1, a, a), 0);
            State.fill(r, 2, 0, a, (a + 1) % 4);
            DUE.is("a row elsewhere, a = b = " + a, r.certain(1, a, a), 0);
            State.fill(r, 2, 0, a, a);
            DUE.is("its row, a = b = " + a, r.certain(1, a, a), 1);
        }
    }

    private static void candidatePlaysNoPart() {
        DUE.says("The candidate and its head play no part.");
        NoPart.ofSection(DUE, 1, State::certain);
        NoPart.ofHead(DUE, State::certain);
    }

    private static void changesNothing() {
        DUE.says("It changes nothing.");
        for (int mask = -1; mask <= 8; mask++) {
            int asked = mask;
            Unchanging.ask(DUE, "certain(" + mask + ",0,2)", r -> r.certain(asked, 0, 2));
            Unchanging.ask(DUE, "certain(" + mask + ",4,0)", r -> r.certain(asked, 4, 0));
        }
    }
}
