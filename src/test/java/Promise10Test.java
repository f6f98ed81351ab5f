/** Promise 10: the candidate over the rows. */
public final class Promise10Test {
    private static final Due DUE = new Due();

    public static void main(String[] args) {
        refusals();
        evaluation();
        sameImage();
        oneHead();
        noAtoms();
        othersPlayNoPart();
        changesNothing();
        DUE.finish();
    }

    private static void refusals() {
        DUE.says("It answers BAD if a or b is not a value.");
        for (int values = 1; values <= 4; values++) {
            ViewRewriter r = new ViewRewriter(1, 1, values, 8);
            refusesAllBut(values, r, 1);
            r.head(2, 2);
            refusesAllBut(values, r, 1);
            State.fill(r, 1, 0, 0, 1);
            refusesAllBut(values, r, 0);
        }
    }

    private static void refusesAllBut(int values, ViewRewriter r, int dueForTheGreatest) {
        for (int number : Numbers.outside(values)) {
            DUE.is("a " + number + " of " + values, r.candidateHas(number, 0), -1);
            DUE.is("b " + number + " of " + values, r.candidateHas(values - 1, number), -1);
            DUE.is("a and b " + number + " of " + values, r.candidateHas(number, number), -1);
        }
        DUE.is("greatest of " + values, r.candidateHas(values - 1, values - 1), dueForTheGreatest);
    }

    private static void evaluation() {
        DUE.says("Otherwise it answers YES if there is a function g from the candidate variables 0..4 to the values with g(h0)=a"
                + " and g(h1)=b such that for every candidate atom v(x,y), (v,g(x),g(y)) is in ROWS; else NO.");
        oneAtom();
        joins();
        headAwayFromZero();
        for (int missing = -1; missing < 4; missing++) {
            ViewRewriter r = new ViewRewriter(1, 2, 4, 8);
            State.fill(r, 1, 0, 0, 2, 1, 2, 3, 0, 3, 4, 1, 4, 1);
            int[][] rows = {{0, 0, 1}, {1, 1, 2}, {0, 2, 3}, {1, 3, 0}};
            for (int i = 0; i < 4; i++) {
                if (i != missing) {
                    State.fill(r, 2, rows[i]);
                }
            }
            for (int i = 0; i < 16; i++) {
                boolean fits = missing == -1 && (i == 0 || i == 10);
                DUE.is("without row " + missing + " at " + i / 4 + "," + i % 4, r.candidateHas(i / 4, i % 4), fits ? 1 : 0);
            }
        }
    }

    /** Every atom of one view or the other, every head, one row: what is given at every pair. */
    private static void oneAtom() {
        for (int code = 0; code < 2 * 25 * 25; code++) {
            ViewRewriter r = new ViewRewriter(1, 2, 3, 8);
            int view = code / 625;
            int[] atom = {code / 125 % 5, code / 25 % 5};
            int[] head = {code / 5 % 5, code % 5};
            State.fill(r, 1, view, atom[0], atom[1]);
            State.fill(r, 2, 1, 1, 2, 0, 2, 2);
            r.head(head[0], head[1]);
            int[] row = view == 1 ? new int[] {1, 2} : new int[] {2, 2};
            for (int i = 0; i < 9; i++) {
                int[] pair = {i / 3, i % 3};
                DUE.is("atom " + view + "(" + atom[0] + "," + atom[1] + "), head " + head[0] + "," + head[1] + " at "
                        + pair[0] + "," + pair[1], r.candidateHas(pair[0], pair[1]), fits(atom, head, row, pair) ? 1 : 0);
            }
        }
    }

    private static boolean fits(int[] atom, int[] head, int[] row, int[] pair) {
        boolean fits = (atom[0] != atom[1] || row[0] == row[1]) && (head[0] != head[1] || pair[0] == pair[1]);
        for (int i = 0; i < 2; i++) {
            for (int j = 0; j < 2; j++) {
                fits &= atom[i] != head[j] || row[i] == pair[j];
            }
        }
        return fits;
    }

    private static void joins() {
        ViewRewriter r = new ViewRewriter(1, 3, 4, 8);
        State.fill(r, 1, 0, 0, 2, 1, 2, 1);
        DUE.is("no rows", r.candidateHas(0, 0), 0);
        State.fill(r, 2, 0, 0, 1, 1, 1, 3, 1, 2, 2, 2, 1, 2);
        DUE.is("joined", r.candidateHas(0, 3), 1);
        DUE.is("turned", r.candidateHas(3, 0), 0);
        DUE.is("not joined", r.candidateHas(0, 2), 0);
        DUE.is("a row of another view does not serve", r.candidateHas(0, 1), 0);
        State.fill(r, 1, 2, 2, 3, 1, 3, 4);
        DUE.is("four atoms, five variables", r.candidateHas(0, 3), 1);
        r.drop(2, 1, 2, 2);
        DUE.is("the last atom has no row", r.candidateHas(0, 3), 0);
        State.fill(r, 2, 1, 2, 0);
        DUE.is("the last atom has another row", r.candidateHas(0, 3), 1);
    }

    /** Variables 0 and 1 are bound by the head only while they stand in it. */
    private static void headAwayFromZero() {
        ViewRewriter r = new ViewRewriter(1, 1, 4, 8);
        State.fill(r, 1, 0, 0, 1, 0, 1, 3);
        State.fill(r, 2, 0, 2, 3, 0, 3, 1);
        DUE.is("head (0,1)", r.candidateHas(2, 3), 1);
        DUE.is("head (0,1), no second row", r.candidateHas(3, 1), 0);
        DUE.is("head (0,1)", r.candidateHas(0, 0), 0);
        r.head(3, 4);
        DUE.is("head (3,4), 0 and 1 are free", r.candidateHas(1, 0), 1);
        DUE.is("head (3,4), no such end", r.candidateHas(3, 0), 0);
    }

    private static void sameImage() {
        DUE.says("Different variables may have the same image.");
        for (int value = 0; value < 4; value++) {
            ViewRewriter r = new ViewRewriter(1, 1, 4, 8);
            State.fill(r, 1, 0, 0, 2, 0, 2, 3, 0, 3, 4, 0, 4, 1);
            DUE.is("no row", r.candidateHas(value, value), 0);
            State.fill(r, 2, 0, value, value);
            DUE.is("all five at " + value, r.candidateHas(value, value), 1);
            DUE.is("all five at " + value, r.candidateHas(value, (value + 1) % 4), 0);
        }
    }

    private static void oneHead() {
        DUE.says("the answer is NO if h0 = h1 and a differs from b;");
        for (int atoms = 0; atoms < 3; atoms++) {
            for (int h = 0; h < 5; h++) {
                for (int i = 0; i < 16; i++) {
                    ViewRewriter r = new ViewRewriter(1, 1, 4, 8);
                    State.fill(r, 2, 0, i / 4, i % 4);
                    if (atoms > 0) {
                        State.fill(r, 1, 0, h, (h + atoms) % 5);
                    }
                    r.head(h, h);
                    DUE.is(atoms + " atoms, head " + h + "," + h + " at " + i / 4 + "," + i % 4,
                            r.candidateHas(i / 4, i % 4), i / 4 == i % 4 ? 1 : 0);
                }
            }
        }
    }

    private static void noAtoms() {
        DUE.says("with no candidate atoms it is YES in all other cases.");
        for (int values = 1; values <= 4; values++) {
            ViewRewriter r = new ViewRewriter(1, 1, values, 8);
            for (int code = 0; code < 25; code++) {
                r.head(code / 5, code % 5);
                for (int i = 0; i < values * values; i++) {
                    boolean differ = code / 5 == code % 5 && i / values != i % values;
                    DUE.is("head " + code / 5 + "," + code % 5 + " at " + i / values + "," + i % values,
                            r.candidateHas(i / values, i % values), differ ? 0 : 1);
                }
            }
        }
    }

    private static void othersPlayNoPart() {
        DUE.says("View bodies play no part, nor does the query.");
        for (int section : new int[] {0, 3, 4, 5}) {
            NoPart.ofSection(DUE, section, State::candidateHas);
        }
        ViewRewriter r = new ViewRewriter(1, 1, 2, 8);
        State.fill(r, 1, 0, 0, 1);
        State.fill(r, 2, 0, 0, 1);
        DUE.is("a view with an empty body", r.candidateHas(0, 1), 1);
        DUE.is("a view with an empty body", r.candidateHas(1, 0), 0);
    }

    private static void changesNothing() {
        DUE.says("It changes nothing.");
        for (int i = 0; i < 25; i++) {
            int a = i / 5;
            int b = i % 5;
            Unchanging.ask(DUE, "candidateHas(" + a + "," + b + ")", r -> r.candidateHas(a, b));
        }
    }
}
