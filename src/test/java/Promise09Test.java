/** Promise 9: whether any rows could give an answer. */
public final class Promise09Test {
    private static final Due DUE = new Due();

    public static void main(String[] args) {
        othersPlayNoPart();
        oneTripleForEachView();
        noQueryAtoms();
        noBodies();
        neverBad();
        changesNothing();
        DUE.finish();
    }

    private static void othersPlayNoPart() {
        DUE.says("The loaded rows play no part, nor do the candidate and its head.");
        NoPart.ofSection(DUE, 2, State::rewritable);
        NoPart.ofSection(DUE, 1, State::rewritable);
        NoPart.ofHead(DUE, State::rewritable);
        ViewRewriter r = new ViewRewriter(1, 1, 4, 8);
        State.fill(r, 0, 0, 0, 2, 0, 2, 1);
        State.fill(r, 3, 0, 0, 2, 0, 2, 3);
        for (int i = 0; i < 8; i++) {
            DUE.is(i + " rows that give no answer", r.rewritable(1), 0);
            State.fill(r, 2, 0, i / 4, i % 4);
        }
        r.clear(2);
        r.drop(3, 0, 2, 3);
        State.fill(r, 3, 0, 2, 1);
        DUE.is("no rows, and an answer that could be", r.rewritable(1), 1);
    }

    private static void oneTripleForEachView() {
        DUE.says("Let T hold exactly one triple (v,0,0) for each view v in the mask, the only plain term being 0: the answer is"
                + " YES if the query matches the facts of T at (0,0), else NO.");
        viewsInTheMask();
        headsFallTogether();
        unknownsOfOneTriple();
        for (int values = 1; values <= 4; values++) {
            ViewRewriter r = new ViewRewriter(1, 1, values, 1);
            State.fill(r, 0, 0, 0, 2, 0, 2, 1);
            State.fill(r, 3, 0, 0, 1);
            DUE.is("a loop at 0, with " + values + " values", r.rewritable(1), 1);
        }
    }

    private static void viewsInTheMask() {
        ViewRewriter r = new ViewRewriter(3, 3, 4, 8);
        State.fill(r, 0, 0, 0, 2, 1, 2, 3, 2, 3, 1);
        for (int v = 0; v < 3; v++) {
            State.fill(r, 3 + v, v, 0, 1);
        }
        for (int mask = -8; mask <= 15; mask++) {
            DUE.is("all three views, mask " + mask, r.rewritable(mask), (mask & 7) == 7 ? 1 : 0);
        }
    }

    private static void headsFallTogether() {
        ViewRewriter r = new ViewRewriter(1, 1, 4, 8);
        State.fill(r, 0, 0, 0, 1, 0, 1, 0, 0, 0, 0);
        State.fill(r, 3, 0, 0, 1);
        DUE.is("one loop takes all of it", r.rewritable(1), 1);
        r.clear(3);
        State.fill(r, 3, 0, 0, 2);
        DUE.is("an end that is hidden", r.rewritable(1), 0);
        r.clear(0);
        State.fill(r, 0, 0, 0, 2, 0, 1, 3);
        DUE.is("two ends that may be hidden", r.rewritable(1), 1);
        State.fill(r, 0, 0, 2, 3);
        DUE.is("a hidden end goes no further", r.rewritable(1), 0);
    }

    /** With one triple for the view, two facts out of it share its unknowns; a second triple is not there to help. */
    private static void unknownsOfOneTriple() {
        ViewRewriter r = new ViewRewriter(2, 3, 4, 8);
        State.fill(r, 0, 0, 0, 2, 1, 2, 1);
        State.fill(r, 3, 0, 0, 2);
        State.fill(r, 4, 1, 2, 1);
        DUE.is("unknowns of two views", r.rewritable(-1), 0);
        State.fill(r, 4, 0, 0, 3);
        DUE.is("two unknowns of one view", r.rewritable(-1), 0);
        State.fill(r, 5, 0, 0, 3, 1, 3, 1);
        DUE.is("one unknown of the third view", r.rewritable(-1), 1);
        DUE.is("without the third view", r.rewritable(3), 0);
        DUE.is("the third view alone", r.rewritable(4), 1);
    }

    private static void noQueryAtoms() {
        DUE.says("With no query atoms the answer is YES, for every mask.");
        ViewRewriter full = Scene.full();
        full.clear(0);
        for (int mask : Numbers.wide()) {
            for (int views = 1; views <= 3; views++) {
                DUE.is("nothing at all, mask " + mask, new ViewRewriter(1, views, 1, 1).rewritable(mask), 1);
            }
            DUE.is("all else full, mask " + mask, full.rewritable(mask), 1);
        }
    }

    private static void noBodies() {
        DUE.says("With at least one query atom and no view with a body atom in the mask it is NO.");
        for (int code = 0; code < 25; code++) {
            ViewRewriter r = new ViewRewriter(1, 3, 1, 8);
            State.fill(r, 0, 0, code / 5, code % 5);
            String query = "query atom (" + code / 5 + "," + code % 5 + "), mask ";
            for (int mask = -8; mask <= 15; mask++) {
                DUE.is("no bodies, " + query + mask, r.rewritable(mask), 0);
            }
            State.fill(r, 4, 0, 0, 0);
            for (int mask = -8; mask <= 15; mask++) {
                DUE.is("the second view's body, " + query + mask, r.rewritable(mask), (mask & 2) == 2 ? 1 : 0);
            }
        }
    }

    private static void neverBad() {
        DUE.says("It never answers BAD.");
        for (Shape shape : Shape.all()) {
            ViewRewriter r = shape.make();
            State.fill(r, 0, 0, 0, 1);
            State.fill(r, 2 + shape.views, 0, 0, 1);
            for (int mask : Numbers.wide()) {
                DUE.is(shape + " rewritable(" + mask + ")", r.rewritable(mask), mask >> shape.views - 1 & 1);
            }
        }
    }

    private static void changesNothing() {
        DUE.says("It changes nothing.");
        for (int mask = -1; mask <= 8; mask++) {
            int asked = mask;
            Unchanging.ask(DUE, "rewritable(" + mask + ")", r -> r.rewritable(asked));
        }
    }
}
