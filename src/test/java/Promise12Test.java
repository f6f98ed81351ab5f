/** Promise 12: the query contained in the candidate's expansion. */
public final class Promise12Test {
    private static final Due DUE = new Due();

    public static void main(String[] args) {
        noAtoms();
        oneHead();
        hiddenVariables();
        images();
        eachView();
        rowsPlayNoPart();
        DUE.finish();
    }

    private static void noAtoms() {
        ViewRewriter x = new ViewRewriter(2, 2, 4, 8);
        DUE.is("nothing at all", x.complete(), 1);
        State.fill(x, 1, 1, 3, 3);
        DUE.is("an atom of a view with an empty body", x.complete(), 1);
        State.fill(x, 3, 0, 2, 3);
        DUE.is("the body of another view", x.complete(), 1);
        State.fill(x, 4, 0, 2, 3);
        DUE.is("an empty query, a body that is not", x.complete(), 0);
        State.fill(x, 0, 0, 4, 4);
        DUE.is("a query atom that serves", x.complete(), 1);
        x.clear(0);
        State.fill(x, 0, 1, 4, 4);
        DUE.is("a query atom of another relation", x.complete(), 0);
        x.clear(1);
        DUE.is("no candidate atoms", x.complete(), 1);
    }

    private static void oneHead() {
        ViewRewriter x = new ViewRewriter(1, 1, 4, 8);
        for (int atoms = 0; atoms < 3; atoms++) {
            for (int h0 = 0; h0 < 5; h0++) {
                for (int h1 = 0; h1 < 5; h1++) {
                    x.head(h0, h1);
                    DUE.is(atoms + " atoms, head " + h0 + "," + h1, x.complete(), h0 == h1 ? 0 : 1);
                }
            }
            State.fill(x, 1, 0, atoms, atoms);
        }
        State.fill(x, 0, 0, 0, 0, 0, 0, 1, 0, 1, 0, 0, 1, 1);
        State.fill(x, 3, 0, 0, 1);
        x.head(3, 3);
        DUE.is("one head, all loops", x.complete(), 0);
        x.head(3, 2);
        DUE.is("two heads, all loops", x.complete(), 1);
    }

    private static void hiddenVariables() {
        ViewRewriter x = new ViewRewriter(2, 1, 4, 8);
        State.fill(x, 0, 0, 0, 2, 1, 2, 3, 0, 3, 4, 1, 4, 1);
        State.fill(x, 3, 0, 0, 2, 1, 2, 1);
        State.fill(x, 1, 0, 0, 4, 0, 4, 1);
        DUE.is("c chosen for each atom by itself", x.complete(), 1);
        State.fill(x, 1, 0, 3, 2);
        DUE.is("a third atom goes where another went", x.complete(), 1);
        State.fill(x, 1, 0, 2, 3);
        DUE.is("a way back there is not", x.complete(), 0);
        x.clear(1);
        x.clear(3);
        State.fill(x, 3, 1, 3, 2, 1, 2, 1);
        State.fill(x, 1, 0, 0, 1);
        DUE.is("no such path", x.complete(), 0);
        x.drop(3, 1, 3, 2);
        State.fill(x, 3, 0, 3, 2);
        DUE.is("c and d both needed", x.complete(), 1);
        State.fill(x, 3, 0, 0, 2);
        DUE.is("the head bound as well", x.complete(), 0);
        x.clear(0);
        State.fill(x, 0, 0, 0, 0, 1, 0, 1);
        DUE.is("c, d and the head may be equal", x.complete(), 1);
        x.clear(0);
        State.fill(x, 0, 0, 0, 4, 1, 4, 1);
        DUE.is("c is 4, d is 0", x.complete(), 1);
    }

    private static void images() {
        ViewRewriter x = new ViewRewriter(1, 2, 4, 8);
        State.fill(x, 0, 0, 0, 1);
        State.fill(x, 3, 0, 0, 1);
        State.fill(x, 4, 0, 1, 0);
        State.fill(x, 1, 0, 0, 1);
        DUE.is("the same", x.complete(), 1);
        State.fill(x, 1, 0, 2, 3);
        DUE.is("different variables, the same image", x.complete(), 1);
        State.fill(x, 1, 1, 3, 2);
        DUE.is("the turned view", x.complete(), 1);
        x.drop(1, 1, 3, 2);
        State.fill(x, 1, 1, 2, 3);
        DUE.is("both ways at once", x.complete(), 0);
        x.drop(1, 1, 2, 3);
        State.fill(x, 1, 0, 3, 4);
        DUE.is("a path of two", x.complete(), 0);
        State.fill(x, 0, 0, 4, 4);
        DUE.is("a query loop far from the head", x.complete(), 1);
        x.head(1, 0);
        DUE.is("the head turned", x.complete(), 0);
        x.clear(1);
        State.fill(x, 1, 0, 3, 4);
        x.head(3, 4);
        DUE.is("a head elsewhere", x.complete(), 1);
        x.head(4, 3);
        DUE.is("a head elsewhere, turned", x.complete(), 0);
        x.head(3, 2);
        DUE.is("half of the head bound", x.complete(), 1);
        x.head(2, 3);
        DUE.is("the wrong half bound", x.complete(), 0);
    }

    private static void eachView() {
        for (int view = 0; view < 3; view++) {
            ViewRewriter x = new ViewRewriter(3, 3, 4, 8);
            State.fill(x, 0, 2, 0, 1);
            State.fill(x, 1, view, 0, 1);
            for (int body = 0; body < 3; body++) {
                State.fill(x, 3 + body, 2, 1, 0);
                DUE.is("an atom of view " + view + ", body " + body, x.complete(), body == view ? 0 : 1);
                x.clear(3 + body);
                State.fill(x, 3 + body, 2, 0, 1);
                DUE.is("an atom of view " + view + ", body " + body, x.complete(), 1);
            }
        }
    }

    private static void rowsPlayNoPart() {
        ViewRewriter x = new ViewRewriter(1, 1, 2, 8);
        State.fill(x, 3, 0, 0, 1);
        State.fill(x, 1, 0, 0, 1);
        State.fill(x, 2, 0, 0, 1);
        DUE.is("a row is not a query atom", x.complete(), 0);
        x.clear(2);
        State.fill(x, 0, 0, 0, 1);
        String before = State.of(x);
        DUE.is("no row is needed", x.complete(), 1);
        DUE.holds("complete changes nothing", State.of(x).equals(before));
    }
}
