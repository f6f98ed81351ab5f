/** Promise 11: the candidate contained in the query. */
public final class Promise11Test {
    private static final Due DUE = new Due();

    public static void main(String[] args) {
        contained();
        noQueryAtoms();
        noFacts();
        oneHead();
        rowsPlayNoPart();
        changesNothing();
        DUE.finish();
    }

    private static void contained() {
        DUE.says("Let T be the triples of CANDIDATE, the plain terms being the candidate variables 0..4: the answer is YES if the"
                + " query matches the facts of T at (h0,h1), else NO.");
        halvesOfAPath();
        unknownsOfAtoms();
        eachHead();
        eachView();
    }

    /** The query is a path of four; each view is a path of two. */
    private static void halvesOfAPath() {
        ViewRewriter r = new ViewRewriter(2, 2, 1, 8);
        State.fill(r, 0, 0, 0, 2, 1, 2, 3, 0, 3, 4, 1, 4, 1);
        State.fill(r, 3, 0, 0, 2, 1, 2, 1);
        State.fill(r, 1, 0, 0, 4);
        DUE.is("half a path", r.sound(), 0);
        State.fill(r, 1, 0, 4, 1);
        DUE.is("both halves", r.sound(), 1);
        State.fill(r, 1, 1, 2, 2);
        DUE.is("an atom more", r.sound(), 1);
        r.drop(1, 0, 4, 1);
        State.fill(r, 1, 0, 3, 1);
        DUE.is("halves that do not meet", r.sound(), 0);
        State.fill(r, 4, 0, 0, 2, 1, 2, 1);
        State.fill(r, 1, 1, 4, 1);
        DUE.is("the half of another view", r.sound(), 1);
        r.head(1, 0);
        DUE.is("the head turned", r.sound(), 0);
    }

    private static void unknownsOfAtoms() {
        ViewRewriter r = new ViewRewriter(2, 2, 4, 8);
        State.fill(r, 0, 0, 0, 2, 1, 2, 1);
        State.fill(r, 3, 0, 0, 2);
        State.fill(r, 4, 1, 2, 1);
        State.fill(r, 1, 0, 0, 1, 1, 0, 1);
        DUE.is("unknowns of two atoms", r.sound(), 0);
        r.clear(3);
        r.clear(4);
        r.drop(1, 1, 0, 1);
        State.fill(r, 3, 0, 0, 2, 1, 3, 1);
        State.fill(r, 1, 0, 2, 1, 0, 0, 3, 0, 4, 1);
        DUE.is("unknowns of four atoms", r.sound(), 0);
        r.clear(3);
        State.fill(r, 3, 0, 0, 2, 1, 2, 1);
        DUE.is("one unknown of one atom", r.sound(), 1);
    }

    private static void eachHead() {
        for (int values = 1; values <= 4; values++) {
            ViewRewriter r = new ViewRewriter(1, 1, values, 8);
            State.fill(r, 0, 0, 0, 1);
            State.fill(r, 3, 0, 0, 1);
            State.fill(r, 1, 0, 2, 3, 0, 4, 4, 0, 0, 4);
            for (int code = 0; code < 25; code++) {
                r.head(code / 5, code % 5);
                boolean isAtom = code == 13 || code == 24 || code == 4;
                DUE.is("head " + code / 5 + "," + code % 5, r.sound(), isAtom ? 1 : 0);
            }
        }
    }

    private static void eachView() {
        for (int view = 0; view < 3; view++) {
            ViewRewriter r = new ViewRewriter(3, 3, 4, 8);
            State.fill(r, 0, 2, 0, 1);
            State.fill(r, 1, view, 0, 1);
            for (int body = 0; body < 3; body++) {
                State.fill(r, 3 + body, 2, 0, 1);
                DUE.is("an atom of view " + view + ", body " + body, r.sound(), body == view ? 1 : 0);
                r.clear(3 + body);
            }
        }
    }

    private static void noQueryAtoms() {
        DUE.says("With no query atoms the answer is YES.");
        for (ViewRewriter r : Scene.all()) {
            r.clear(0);
            for (int code = 0; code < 25; code++) {
                r.head(code / 5, code % 5);
                DUE.is("head " + code / 5 + "," + code % 5, r.sound(), 1);
            }
            r.clear(1);
            DUE.is("no candidate atoms", r.sound(), 1);
        }
    }

    private static void noFacts() {
        DUE.says("With at least one query atom and no facts (for example when there are no candidate atoms) it is NO.");
        for (int code = 0; code < 25; code++) {
            ViewRewriter r = new ViewRewriter(1, 2, 4, 8);
            State.fill(r, 0, 0, code / 5, code % 5);
            String query = "query atom (" + code / 5 + "," + code % 5 + "), ";
            r.head(0, 0);
            DUE.is(query + "no candidate atoms, no bodies", r.sound(), 0);
            State.fill(r, 3, 0, 0, 0);
            DUE.is(query + "no candidate atoms", r.sound(), 0);
            State.fill(r, 1, 1, 0, 0);
            DUE.is(query + "an atom of a view with an empty body", r.sound(), 0);
            State.fill(r, 1, 0, 0, 0);
            DUE.is(query + "an atom of the other view", r.sound(), 1);
            r.clear(3);
            DUE.is(query + "its body is gone", r.sound(), 0);
        }
    }

    private static void oneHead() {
        DUE.says("h0 = h1 is treated by the same rule: then f(0) and f(1) are the same term.");
        for (int h = 0; h < 5; h++) {
            ViewRewriter r = new ViewRewriter(1, 1, 4, 8);
            State.fill(r, 3, 0, 0, 1);
            State.fill(r, 0, 0, 0, 1);
            State.fill(r, 1, 0, h, (h + 1) % 5);
            r.head(h, h);
            DUE.is("no loop at " + h, r.sound(), 0);
            State.fill(r, 1, 0, h, h);
            DUE.is("a loop at " + h, r.sound(), 1);
            r.clear(0);
            State.fill(r, 0, 0, 0, 2, 0, 1, 2);
            r.drop(1, 0, h, h);
            DUE.is("both from " + h + " to one term", r.sound(), 1);
            r.clear(0);
            State.fill(r, 0, 0, 2, 3);
            DUE.is("the head in no query atom", r.sound(), 1);
        }
    }

    private static void rowsPlayNoPart() {
        DUE.says("The loaded rows play no part.");
        NoPart.ofSection(DUE, 2, r -> "sound " + r.sound());
        ViewRewriter r = new ViewRewriter(1, 1, 2, 8);
        State.fill(r, 0, 0, 0, 1);
        State.fill(r, 3, 0, 0, 1);
        State.fill(r, 2, 0, 0, 1, 0, 0, 0);
        DUE.is("a row is not an atom", r.sound(), 0);
        State.fill(r, 1, 0, 0, 1);
        r.clear(2);
        DUE.is("an atom needs no row", r.sound(), 1);
    }

    private static void changesNothing() {
        DUE.says("It changes nothing.");
        Unchanging.ask(DUE, "sound", ViewRewriter::sound);
    }
}
