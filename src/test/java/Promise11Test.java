/** Promise 11: the candidate's expansion contained in the query. */
public final class Promise11Test {
    private static final Due DUE = new Due();

    public static void main(String[] args) {
        noAtoms();
        expansion();
        unknownsAreApart();
        heads();
        eachView();
        rowsPlayNoPart();
        DUE.finish();
    }

    private static void noAtoms() {
        ViewRewriter x = new ViewRewriter(1, 2, 4, 8);
        DUE.is("no query atoms, no candidate", x.sound(), 1);
        State.fill(x, 1, 1, 0, 1);
        DUE.is("no query atoms", x.sound(), 1);
        x.head(3, 3);
        DUE.is("no query atoms, one head", x.sound(), 1);
        x.clear(1);
        State.fill(x, 0, 0, 3, 4);
        DUE.is("no candidate atoms", x.sound(), 0);
        State.fill(x, 1, 1, 0, 1);
        DUE.is("a view with an empty body", x.sound(), 0);
        State.fill(x, 3, 0, 0, 1);
        DUE.is("the body of another view", x.sound(), 0);
        State.fill(x, 4, 0, 2, 3);
        DUE.is("a hidden fact for free variables", x.sound(), 1);
    }

    /** The query is a path of four; each view is a path of two. */
    private static void expansion() {
        ViewRewriter x = new ViewRewriter(2, 2, 4, 8);
        State.fill(x, 0, 0, 0, 2, 1, 2, 3, 0, 3, 4, 1, 4, 1);
        State.fill(x, 3, 0, 0, 2, 1, 2, 1);
        State.fill(x, 1, 0, 0, 4);
        DUE.is("half a path", x.sound(), 0);
        State.fill(x, 1, 0, 4, 1);
        DUE.is("both halves", x.sound(), 1);
        State.fill(x, 1, 1, 2, 2);
        DUE.is("an atom more", x.sound(), 1);
        x.drop(1, 0, 4, 1);
        State.fill(x, 1, 0, 3, 1);
        DUE.is("halves that do not meet", x.sound(), 0);
        State.fill(x, 4, 0, 0, 2, 1, 2, 1);
        State.fill(x, 1, 1, 4, 1);
        DUE.is("the half of another view", x.sound(), 1);
        x.head(1, 0);
        DUE.is("the head turned", x.sound(), 0);
    }

    private static void unknownsAreApart() {
        ViewRewriter x = new ViewRewriter(2, 2, 4, 8);
        State.fill(x, 0, 0, 0, 2, 1, 2, 1);
        State.fill(x, 3, 0, 0, 2);
        State.fill(x, 4, 1, 2, 1);
        State.fill(x, 1, 0, 0, 1, 1, 0, 1);
        DUE.is("unknowns of two atoms", x.sound(), 0);
        x.clear(3);
        x.clear(4);
        x.drop(1, 1, 0, 1);
        State.fill(x, 3, 0, 0, 2, 1, 3, 1);
        DUE.is("two unknowns of one atom", x.sound(), 0);
        State.fill(x, 1, 0, 2, 1, 0, 0, 3, 0, 4, 1);
        DUE.is("unknowns of four atoms", x.sound(), 0);
        x.clear(3);
        State.fill(x, 3, 0, 0, 2, 1, 2, 1);
        DUE.is("one unknown of one atom", x.sound(), 1);
    }

    private static void heads() {
        ViewRewriter x = new ViewRewriter(1, 1, 4, 8);
        State.fill(x, 0, 0, 0, 1);
        State.fill(x, 3, 0, 0, 1);
        State.fill(x, 1, 0, 2, 3, 0, 4, 4);
        for (int h0 = 0; h0 < 5; h0++) {
            for (int h1 = 0; h1 < 5; h1++) {
                x.head(h0, h1);
                boolean good = h0 == 2 && h1 == 3 || h0 == 4 && h1 == 4;
                DUE.is("head " + h0 + "," + h1, x.sound(), good ? 1 : 0);
            }
        }
        x.clear(0);
        State.fill(x, 0, 0, 2, 3);
        for (int h0 = 0; h0 < 5; h0++) {
            x.head(h0, h0);
            DUE.is("head not in any query atom, " + h0, x.sound(), 1);
        }
    }

    private static void eachView() {
        for (int view = 0; view < 3; view++) {
            ViewRewriter x = new ViewRewriter(3, 3, 4, 8);
            State.fill(x, 0, 2, 0, 1);
            State.fill(x, 1, view, 0, 1);
            for (int body = 0; body < 3; body++) {
                State.fill(x, 3 + body, 2, 0, 1);
                DUE.is("an atom of view " + view + ", body " + body, x.sound(), body == view ? 1 : 0);
                x.clear(3 + body);
            }
        }
    }

    private static void rowsPlayNoPart() {
        ViewRewriter x = new ViewRewriter(1, 1, 1, 8);
        State.fill(x, 0, 0, 0, 1);
        State.fill(x, 3, 0, 0, 1);
        State.fill(x, 2, 0, 0, 0);
        DUE.is("a row is not an atom", x.sound(), 0);
        State.fill(x, 1, 0, 0, 1);
        x.clear(2);
        String before = State.of(x);
        DUE.is("an atom needs no row", x.sound(), 1);
        DUE.holds("sound changes nothing", State.of(x).equals(before));
    }
}
