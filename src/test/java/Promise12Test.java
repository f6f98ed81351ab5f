/** Promise 12: the query contained in the candidate. */
public final class Promise12Test {
    private static final Due DUE = new Due();

    public static void main(String[] args) {
        contained();
        sameImages();
        allVariables();
        oneHead();
        emptyBody();
        noCandidateAtoms();
        emptyQuery();
        rowsPlayNoPart();
        changesNothing();
        DUE.finish();
    }

    private static void contained() {
        DUE.says("The answer is YES if there is a function g from the candidate variables 0..4 to the query variables 0..4 with"
                + " g(h0)=0 and g(h1)=1 such that for every candidate atom v(x,y) there are query variables c and d, chosen for"
                + " each candidate atom by itself, for which every atom k(p,q) in the body of view v has k(s(p),s(q)) in QUERY,"
                + " where s(0)=g(x), s(1)=g(y), s(2)=c, s(3)=d. Otherwise the answer is NO.");
        chosenForEachAtom();
        bothHidden();
        images();
        oneAtomEach();
        eachView();
    }

    private static void chosenForEachAtom() {
        ViewRewriter r = new ViewRewriter(2, 1, 4, 8);
        State.fill(r, 0, 0, 0, 2, 1, 2, 3, 0, 3, 4, 1, 4, 1);
        State.fill(r, 3, 0, 0, 2, 1, 2, 1);
        State.fill(r, 1, 0, 0, 4, 0, 4, 1);
        DUE.is("c chosen for each atom by itself", r.complete(), 1);
        State.fill(r, 1, 0, 3, 2);
        DUE.is("a third atom goes where another went", r.complete(), 1);
        State.fill(r, 1, 0, 2, 3);
        DUE.is("a way back there is not", r.complete(), 0);
        r.clear(1);
        r.clear(3);
        State.fill(r, 3, 0, 0, 3, 1, 3, 1);
        State.fill(r, 1, 0, 0, 4, 0, 4, 1);
        DUE.is("d chosen for each atom by itself", r.complete(), 1);
    }

    private static void bothHidden() {
        ViewRewriter r = new ViewRewriter(2, 1, 4, 8);
        State.fill(r, 0, 0, 0, 2, 1, 2, 3, 0, 3, 4, 1, 4, 1);
        State.fill(r, 3, 1, 3, 2, 1, 2, 1);
        State.fill(r, 1, 0, 0, 1);
        DUE.is("no such path", r.complete(), 0);
        r.drop(3, 1, 3, 2);
        State.fill(r, 3, 0, 3, 2);
        DUE.is("c and d both needed", r.complete(), 1);
        State.fill(r, 3, 0, 0, 2);
        DUE.is("the head bound as well", r.complete(), 0);
    }

    private static void images() {
        ViewRewriter r = new ViewRewriter(1, 2, 4, 8);
        State.fill(r, 0, 0, 0, 1);
        State.fill(r, 3, 0, 0, 1);
        State.fill(r, 4, 0, 1, 0);
        State.fill(r, 1, 0, 0, 1);
        DUE.is("the same", r.complete(), 1);
        State.fill(r, 1, 0, 2, 3, 1, 3, 2);
        DUE.is("the turned view", r.complete(), 1);
        r.drop(1, 1, 3, 2);
        State.fill(r, 1, 1, 2, 3);
        DUE.is("both ways at once", r.complete(), 0);
        r.drop(1, 1, 2, 3);
        State.fill(r, 1, 0, 3, 4);
        DUE.is("a path of two", r.complete(), 0);
        State.fill(r, 0, 0, 4, 4);
        DUE.is("a query loop far from the head", r.complete(), 1);
        r.head(1, 0);
        DUE.is("the head turned", r.complete(), 0);
    }

    /** One query atom, one candidate atom, one body atom without hidden variables, every head. */
    private static void oneAtomEach() {
        for (int code = 0; code < 25 * 25 * 25; code++) {
            int[] query = {code / 125 / 25 / 5, code / 125 / 25 % 5};
            int[] atom = {code / 125 % 5, code / 25 % 5};
            int[] head = {code / 5 % 5, code % 5};
            ViewRewriter r = new ViewRewriter(1, 1, 1, 1);
            State.fill(r, 0, 0, query[0], query[1]);
            State.fill(r, 1, 0, atom[0], atom[1]);
            State.fill(r, 3, 0, 0, 1);
            r.head(head[0], head[1]);
            boolean fits = head[0] != head[1] && (atom[0] != atom[1] || query[0] == query[1]);
            for (int i = 0; i < 2; i++) {
                for (int j = 0; j < 2; j++) {
                    fits &= atom[i] != head[j] || query[i] == j;
                }
            }
            DUE.is("query " + query[0] + "," + query[1] + ", atom " + atom[0] + "," + atom[1] + ", head " + head[0] + ","
                    + head[1], r.complete(), fits ? 1 : 0);
        }
    }

    private static void eachView() {
        for (int view = 0; view < 3; view++) {
            ViewRewriter r = new ViewRewriter(3, 3, 4, 8);
            State.fill(r, 0, 2, 0, 1);
            State.fill(r, 1, view, 0, 1);
            for (int body = 0; body < 3; body++) {
                State.fill(r, 3 + body, 2, 1, 0);
                DUE.is("an atom of view " + view + ", body " + body, r.complete(), body == view ? 0 : 1);
                r.clear(3 + body);
                State.fill(r, 3 + body, 2, 0, 1);
                DUE.is("an atom of view " + view + ", body " + body, r.complete(), 1);
            }
        }
    }

    private static void sameImages() {
        DUE.says("Different variables may have the same image, and c and d may be equal to each other or to any other image.");
        ViewRewriter r = new ViewRewriter(1, 1, 4, 8);
        State.fill(r, 0, 0, 0, 1);
        State.fill(r, 3, 0, 0, 1);
        State.fill(r, 1, 0, 0, 1, 0, 2, 3, 0, 4, 3);
        DUE.is("three variables at 0, two at 1", r.complete(), 1);
        ViewRewriter loops = new ViewRewriter(2, 1, 4, 8);
        State.fill(loops, 0, 0, 4, 4);
        State.fill(loops, 1, 0, 2, 2);
        State.fill(loops, 3, 0, 2, 3, 0, 3, 2);
        DUE.is("c is d", loops.complete(), 1);
        State.fill(loops, 3, 0, 0, 3);
        DUE.is("c and d are g(x)", loops.complete(), 1);
        loops.drop(3, 0, 0, 3);
        State.fill(loops, 3, 0, 2, 1);
        DUE.is("c and d are g(y)", loops.complete(), 1);
        ViewRewriter heads = new ViewRewriter(2, 1, 4, 8);
        State.fill(heads, 0, 0, 0, 0, 1, 0, 1);
        State.fill(heads, 1, 0, 0, 1);
        State.fill(heads, 3, 0, 0, 2, 0, 2, 3, 1, 3, 1);
        DUE.is("c and d are 0, the image of h0", heads.complete(), 1);
        heads.clear(0);
        State.fill(heads, 0, 0, 0, 1, 0, 1, 1, 1, 1, 1);
        DUE.is("c and d are 1, the image of h1", heads.complete(), 1);
        ViewRewriter two = new ViewRewriter(1, 1, 4, 8);
        State.fill(two, 0, 0, 2, 3);
        State.fill(two, 1, 0, 2, 3, 0, 3, 4);
        State.fill(two, 3, 0, 2, 3);
        DUE.is("c and d of two atoms", two.complete(), 1);
    }

    private static void allVariables() {
        DUE.says("All of the query variables 0..4 are available, whether or not they occur in a query atom.");
        for (int code = 0; code < 25; code++) {
            ViewRewriter r = new ViewRewriter(1, 1, 1, 1);
            State.fill(r, 0, 0, code / 5, code % 5);
            State.fill(r, 3, 0, 2, 3);
            String query = "query atom (" + code / 5 + "," + code % 5 + "), ";
            State.fill(r, 1, 0, 0, 1);
            DUE.is(query + "g is 0 and 1, c and d where the atom is", r.complete(), 1);
            r.clear(3);
            State.fill(r, 3, 0, 0, 1);
            r.clear(1);
            State.fill(r, 1, 0, 2, 3);
            DUE.is(query + "g(2) and g(3) where the atom is", r.complete(), 1);
            r.clear(3);
            DUE.is(query + "an empty body", r.complete(), 1);
        }
    }

    private static void oneHead() {
        DUE.says("NO if h0 = h1, whatever the atoms are;");
        for (ViewRewriter r : Scene.all()) {
            for (int h = 0; h < 5; h++) {
                r.head(h, h);
                DUE.is("head " + h + "," + h, r.complete(), 0);
            }
        }
        ViewRewriter r = new ViewRewriter(1, 1, 4, 8);
        State.fill(r, 0, 0, 0, 0, 0, 0, 1, 0, 1, 0, 0, 1, 1);
        State.fill(r, 3, 0, 0, 1);
        for (int atoms = 0; atoms < 4; atoms++) {
            for (int code = 0; code < 25; code++) {
                r.head(code / 5, code % 5);
                DUE.is(atoms + " atoms, all loops, head " + code / 5 + "," + code % 5, r.complete(),
                        code / 5 == code % 5 ? 0 : 1);
            }
            State.fill(r, 1, 0, atoms, (2 * atoms + 1) % 5);
        }
    }

    private static void emptyBody() {
        DUE.says("a candidate atom of a view with an empty body asks for nothing;");
        for (int view = 0; view < 3; view++) {
            for (int code = 0; code < 25; code++) {
                ViewRewriter r = new ViewRewriter(1, 3, 4, 8);
                for (int other = 0; other < 3; other++) {
                    if (other != view) {
                        State.fill(r, 3 + other, 0, 0, 1);
                    }
                }
                State.fill(r, 1, view, code / 5, code % 5);
                String atom = "atom (" + code / 5 + "," + code % 5 + ") of view " + view;
                DUE.is(atom + ", an empty query", r.complete(), 1);
                State.fill(r, 0, 0, 1, 0);
                DUE.is(atom + ", a query", r.complete(), 1);
                State.fill(r, 1, (view + 1) % 3, 0, 1);
                DUE.is(atom + ", beside an atom that asks for more", r.complete(), 0);
                State.fill(r, 0, 0, 0, 1);
                DUE.is(atom + ", beside an atom that is served", r.complete(), 1);
            }
        }
    }

    private static void noCandidateAtoms() {
        DUE.says("with no candidate atoms and h0 not h1, YES.");
        for (ViewRewriter r : Scene.all()) {
            r.clear(1);
            DUE.is("the first head", r.complete(), 1);
            for (int code = 0; code < 25; code++) {
                if (code / 5 != code % 5) {
                    r.head(code / 5, code % 5);
                    DUE.is("head " + code / 5 + "," + code % 5, r.complete(), 1);
                }
            }
        }
    }

    private static void emptyQuery() {
        DUE.says("If QUERY is empty and some candidate atom is of a view whose body is not empty, NO.");
        for (int view = 0; view < 3; view++) {
            for (int code = 0; code < 16; code++) {
                ViewRewriter r = new ViewRewriter(1, 3, 4, 8);
                State.fill(r, 1, view, 2, 3);
                String name = "view " + view + ", body (" + code / 4 + "," + code % 4 + ")";
                DUE.is("an empty body yet, " + name, r.complete(), 1);
                State.fill(r, 3 + view, 0, code / 4, code % 4);
                DUE.is(name, r.complete(), 0);
                State.fill(r, 1, (view + 1) % 3, 0, 1);
                DUE.is("beside an atom of an empty body, " + name, r.complete(), 0);
                State.fill(r, 0, 0, 4, 4);
                DUE.is("with a loop in the query, " + name, r.complete(), 1);
            }
        }
    }

    private static void rowsPlayNoPart() {
        DUE.says("The loaded rows play no part.");
        NoPart.ofSection(DUE, 2, r -> "complete " + r.complete());
        ViewRewriter r = new ViewRewriter(1, 1, 2, 8);
        State.fill(r, 3, 0, 0, 1);
        State.fill(r, 1, 0, 0, 1);
        State.fill(r, 2, 0, 0, 1);
        DUE.is("a row is not a query atom", r.complete(), 0);
        r.clear(2);
        State.fill(r, 0, 0, 0, 1);
        DUE.is("no row is needed", r.complete(), 1);
    }

    private static void changesNothing() {
        DUE.says("It changes nothing.");
        Unchanging.ask(DUE, "complete", ViewRewriter::complete);
    }
}
