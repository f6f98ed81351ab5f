import java.util.Arrays;

/** Promise 13: the size of the minimised query. */
public final class Promise13Test {
    private static final Due DUE = new Due();

    public static void main(String[] args) {
        least();
        bounds();
        othersPlayNoPart();
        changesNothing();
        DUE.finish();
    }

    private static void core(int want, int... triples) {
        ViewRewriter r = new ViewRewriter(3, 3, 4, 8);
        State.fill(r, 0, triples);
        DUE.is("coreSize of " + Arrays.toString(triples), r.coreSize(), want);
        DUE.is("the same again", r.coreSize(), want);
    }

    private static void least() {
        DUE.says("Look at all functions m from the query variables 0..4 to the query variables 0..4 with m(0)=0 and m(1)=1 for"
                + " which every query atom k(x,y) has k(m(x),m(y)) in QUERY. The answer is the least number, over these m, of"
                + " different atoms k(m(x),m(y)) so reached.");
        variablesFoldTogether();
        headsStay();
        relationsAreApart();
        paths();
    }

    private static void variablesFoldTogether() {
        core(1, 0, 0, 2, 0, 0, 3, 0, 0, 4);
        core(1, 0, 0, 1, 0, 0, 3, 0, 0, 4);
        core(1, 0, 0, 1, 0, 2, 1, 0, 3, 1, 0, 4, 1);
        core(1, 0, 4, 4, 0, 2, 4, 0, 3, 4);
        core(1, 0, 2, 2, 0, 2, 3, 0, 4, 2);
        core(1, 0, 2, 3, 0, 3, 4, 0, 2, 2);
        core(1, 0, 2, 2, 0, 3, 3, 0, 4, 4);
        core(2, 0, 0, 1, 0, 0, 3, 0, 1, 4);
    }

    private static void headsStay() {
        core(2, 0, 0, 0, 0, 1, 1);
        core(2, 0, 0, 2, 0, 1, 2);
        core(2, 0, 0, 2, 0, 1, 3);
        core(2, 0, 0, 1, 0, 1, 0);
        core(1, 0, 0, 0, 0, 2, 2);
        core(1, 0, 1, 1, 0, 2, 2);
        core(3, 0, 0, 0, 0, 1, 1, 0, 0, 1, 0, 4, 4);
        core(4, 0, 0, 0, 0, 1, 1, 0, 0, 1, 0, 1, 0);
    }

    private static void relationsAreApart() {
        core(2, 0, 0, 1, 1, 0, 1);
        core(2, 0, 2, 3, 1, 2, 3);
        core(2, 0, 2, 3, 1, 3, 4);
        core(2, 0, 0, 2, 0, 0, 3, 1, 2, 4);
        core(2, 0, 0, 2, 1, 2, 1, 0, 0, 3);
        core(2, 0, 0, 2, 1, 2, 1, 0, 0, 3, 1, 3, 1);
        core(4, 0, 0, 2, 1, 2, 1, 0, 0, 3, 2, 3, 1);
    }

    private static void paths() {
        core(2, 0, 2, 3, 0, 3, 4);
        core(4, 0, 0, 2, 0, 2, 3, 0, 3, 4, 0, 4, 1);
        core(3, 0, 2, 3, 0, 3, 4, 0, 4, 2);
        core(4, 0, 2, 3, 0, 3, 4, 0, 4, 2, 0, 2, 4);
        core(2, 0, 2, 3, 0, 3, 2, 0, 3, 4, 0, 4, 3);
    }

    private static void bounds() {
        DUE.says("The answer is 0 for a query without atoms, and otherwise at least 1 and at most the number of query atoms.");
        for (ViewRewriter r : Scene.all()) {
            r.clear(0);
            DUE.is("no query atoms", r.coreSize(), 0);
        }
        for (int one = 0; one < 50; one++) {
            core(1, one / 25, one / 5 % 5, one % 5);
            for (int other = one + 1; other < 50; other++) {
                ViewRewriter r = new ViewRewriter(2, 1, 1, 1);
                State.fill(r, 0, one / 25, one / 5 % 5, one % 5, other / 25, other / 5 % 5, other % 5);
                int size = r.coreSize();
                DUE.holds("coreSize " + size + " of atoms " + one + " and " + other, size >= 1 && size <= 2);
                r.put(0, 0, 0, 4);
                size = r.coreSize();
                DUE.holds("coreSize " + size + " of them and (0,4)", size >= 1 && size <= r.size(0));
            }
        }
    }

    private static void othersPlayNoPart() {
        DUE.says("The view bodies, the rows, the candidate and its head play no part.");
        for (int section = 1; section <= 5; section++) {
            NoPart.ofSection(DUE, section, r -> "coreSize " + r.coreSize());
        }
        NoPart.ofHead(DUE, r -> "coreSize " + r.coreSize());
    }

    private static void changesNothing() {
        DUE.says("It changes nothing; in particular the query itself is not minimised.");
        Unchanging.ask(DUE, "coreSize", ViewRewriter::coreSize);
        ViewRewriter r = Scene.empty();
        State.fill(r, 0, 0, 0, 1, 0, 2, 1, 0, 3, 1, 0, 4, 1);
        String before = State.of(r);
        DUE.is("a query that is not minimal", r.coreSize(), 1);
        DUE.is("all its atoms are there", r.size(0), 4);
        for (int x : new int[] {0, 2, 3, 4}) {
            DUE.is("atom (" + x + ",1)", r.has(0, 0, x, 1), 1);
        }
        DUE.unchanged("coreSize of a query that is not minimal", r, before);
    }
}
