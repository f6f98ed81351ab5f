/** "Terms used": masks, facts and match, each seen through the questions that stand on them. */
public final class FactsTest {
    private static final Due DUE = new Due();

    public static void main(String[] args) {
        anyMask();
        bitOfAView();
        highBits();
        noneAndAll();
        unknowns();
        factOfAnAtom();
        nothingElse();
        emptyBody();
        oneFunction();
        sameImage();
        emptyQuery();
        DUE.finish();
    }

    /** As many views as given; view v has the body v(0,1) and the row (0,1), the query is one atom of each relation. */
    private static ViewRewriter oneRelationEach(int views, int... relations) {
        ViewRewriter r = new ViewRewriter(3, views, 2, 8);
        for (int view = 0; view < views; view++) {
            State.fill(r, 3 + view, view, 0, 1);
            State.fill(r, 2, view, 0, 1);
        }
        for (int relation : relations) {
            State.fill(r, 0, relation, 0, 1);
        }
        return r;
    }

    private static void anyMask() {
        DUE.says("A mask is any int.");
        ViewRewriter r = oneRelationEach(3, 0, 1, 2);
        ViewRewriter none = oneRelationEach(3);
        for (int mask : Numbers.wide()) {
            int all = (mask & 7) == 7 ? 1 : 0;
            DUE.is("certain(" + mask + ",0,1)", r.certain(mask, 0, 1), all);
            DUE.is("rewritable(" + mask + ")", r.rewritable(mask), all);
            DUE.is("no query atoms, certain(" + mask + ",0,1)", none.certain(mask, 0, 1), 1);
            DUE.is("no query atoms, rewritable(" + mask + ")", none.rewritable(mask), 1);
        }
    }

    private static void bitOfAView() {
        DUE.says("View v is in the mask when bit v (the bit worth 2 to the v) is set.");
        for (int view = 0; view < 3; view++) {
            ViewRewriter r = oneRelationEach(3, view);
            for (int mask = 0; mask < 8; mask++) {
                int in = mask / (1 << view) % 2;
                DUE.is("view " + view + ", certain(" + mask + ",0,1)", r.certain(mask, 0, 1), in);
                DUE.is("view " + view + ", rewritable(" + mask + ")", r.rewritable(mask), in);
            }
        }
    }

    private static void highBits() {
        DUE.says("All bits at or above position views are ignored.");
        for (int views = 1; views <= 3; views++) {
            for (int view = 0; view < views; view++) {
                ViewRewriter r = oneRelationEach(views, view);
                for (int low = 0; low < 1 << views; low++) {
                    int in = low / (1 << view) % 2;
                    for (int bit = views; bit < 32; bit++) {
                        ignores(r, low | 1 << bit, in);
                        ignores(r, low | -1 << bit, in);
                    }
                }
            }
        }
    }

    private static void ignores(ViewRewriter r, int mask, int in) {
        DUE.is("certain(" + mask + ",0,1)", r.certain(mask, 0, 1), in);
        DUE.is("rewritable(" + mask + ")", r.rewritable(mask), in);
    }

    private static void noneAndAll() {
        DUE.says("So with mask 0 no view is in the mask, and with mask -1 every view is.");
        for (int views = 1; views <= 3; views++) {
            for (int view = 0; view < views; view++) {
                ViewRewriter r = oneRelationEach(views, view);
                ignores(r, 0, 0);
                ignores(r, -1, 1);
            }
        }
        ignores(oneRelationEach(3, 0, 1, 2), 0, 0);
        ignores(oneRelationEach(3, 0, 1, 2), -1, 1);
    }

    private static void unknowns() {
        DUE.says("for each triple (v,p,q) of T take two new terms u2 and u3, called unknowns, different from each other,"
                + " from all plain terms, and from the unknowns of every other triple of T.");
        differFromEachOther();
        differFromPlainTerms();
        differBetweenRows();
        differBetweenCandidateAtoms();
        differBetweenViews();
    }

    private static void differFromEachOther() {
        ViewRewriter r = new ViewRewriter(2, 1, 1, 1);
        State.fill(r, 0, 0, 0, 2, 1, 2, 1);
        State.fill(r, 1, 0, 0, 1);
        State.fill(r, 2, 0, 0, 0);
        State.fill(r, 3, 0, 0, 2, 1, 3, 1);
        DUE.is("certain, u2 is not u3", r.certain(1, 0, 0), 0);
        DUE.is("rewritable, u2 is not u3", r.rewritable(1), 0);
        DUE.is("sound, u2 is not u3", r.sound(), 0);
        r.clear(3);
        State.fill(r, 3, 0, 0, 3, 1, 3, 1);
        DUE.is("certain, u3 is u3", r.certain(1, 0, 0), 1);
        DUE.is("rewritable, u3 is u3", r.rewritable(1), 1);
        DUE.is("sound, u3 is u3", r.sound(), 1);
    }

    private static void differFromPlainTerms() {
        for (int hidden = 2; hidden <= 3; hidden++) {
            ViewRewriter r = new ViewRewriter(1, 1, 4, 8);
            State.fill(r, 0, 0, 0, 1);
            State.fill(r, 1, 0, 0, 1, 0, 2, 3, 0, 4, 4, 0, 3, 0);
            State.fill(r, 2, 0, 0, 0, 0, 1, 1, 0, 2, 2, 0, 3, 3, 0, 0, 1, 0, 1, 2, 0, 2, 3, 0, 3, 0);
            State.fill(r, 3, 0, 0, hidden);
            for (int i = 0; i < 25; i++) {
                r.head(i / 5, i % 5);
                DUE.is("sound, a plain term is no unknown, head " + i / 5 + "," + i % 5, r.sound(), 0);
            }
            for (int i = 0; i < 16; i++) {
                DUE.is("certain, a value is no unknown, " + i / 4 + "," + i % 4, r.certain(1, i / 4, i % 4), 0);
            }
            DUE.is("rewritable, 0 is no unknown", r.rewritable(1), 0);
        }
    }

    /** The query's two ends meet in one term; the unknowns of a row meet only the row's own values. */
    private static void differBetweenRows() {
        int[][] bodies = {{0, 0, 2}, {0, 0, 3}, {0, 0, 2, 0, 1, 3}, {0, 0, 3, 0, 1, 2}};
        for (int[] body : bodies) {
            ViewRewriter r = new ViewRewriter(1, 1, 4, 8);
            State.fill(r, 0, 0, 0, 2, 0, 1, 2);
            State.fill(r, 2, 0, 0, 1, 0, 0, 2, 0, 1, 2, 0, 1, 3, 0, 2, 3, 0, 2, 0, 0, 3, 0, 0, 3, 1);
            State.fill(r, 3, body);
            for (int i = 0; i < 16; i++) {
                DUE.is("rows, ends " + i / 4 + "," + i % 4, r.certain(1, i / 4, i % 4), i / 4 == i % 4 ? 1 : 0);
            }
        }
    }

    private static void differBetweenCandidateAtoms() {
        int[][] bodies = {{0, 0, 2, 0, 1, 3}, {0, 0, 3, 0, 1, 2}};
        for (int[] body : bodies) {
            ViewRewriter r = new ViewRewriter(1, 1, 4, 8);
            State.fill(r, 0, 0, 0, 2, 0, 1, 2);
            State.fill(r, 1, 0, 0, 1, 0, 1, 2, 0, 2, 3, 0, 3, 4);
            State.fill(r, 3, body);
            for (int i = 0; i < 25; i++) {
                r.head(i / 5, i % 5);
                DUE.is("candidate atoms, head " + i / 5 + "," + i % 5, r.sound(), i / 5 == i % 5 ? 1 : 0);
            }
        }
    }

    private static void differBetweenViews() {
        for (int one = 0; one < 3; one++) {
            for (int other = 0; other < 3; other++) {
                for (int hidden = 0; hidden < 4 && one != other; hidden++) {
                    ViewRewriter r = new ViewRewriter(2, 3, 1, 8);
                    State.fill(r, 0, 0, 0, 2, 1, 1, 2);
                    State.fill(r, 3 + one, 0, 0, 2 + hidden / 2);
                    State.fill(r, 3 + other, 1, 0, 2 + hidden % 2);
                    DUE.is("rewritable, views " + one + " and " + other, r.rewritable(7), 0);
                    State.fill(r, 2, one, 0, 0, other, 0, 0);
                    DUE.is("certain, views " + one + " and " + other, r.certain(7, 0, 0), 0);
                    State.fill(r, 1, one, 0, 0, other, 0, 0);
                    r.head(0, 0);
                    DUE.is("sound, views " + one + " and " + other, r.sound(), 0);
                }
            }
        }
    }

    private static void factOfAnAtom() {
        DUE.says("For each atom k(x,y) in the body of view v there is the fact k(s(x),s(y)), where s(0)=p, s(1)=q,"
                + " s(2)=u2, s(3)=u3.");
        for (int code = 0; code < 3 * 16; code++) {
            oneFact(code / 16, code / 4 % 4, code % 4, 1, 2);
            oneFact(code / 16, code / 4 % 4, code % 4, 3, 3);
        }
        ViewRewriter r = new ViewRewriter(3, 1, 4, 8);
        State.fill(r, 3, 0, 0, 2, 1, 2, 3, 2, 3, 1);
        State.fill(r, 2, 0, 1, 2);
        State.fill(r, 0, 0, 0, 2, 1, 2, 3, 2, 3, 1);
        DUE.is("all three atoms of the body", r.certain(1, 1, 2), 1);
        DUE.is("all three atoms of the body, turned", r.certain(1, 2, 1), 0);
        DUE.is("all three atoms of the body for any rows", r.rewritable(1), 1);
    }

    /** The body k(x,y) and the row (p,q): what each query of one atom finds of the fact. */
    private static void oneFact(int k, int x, int y, int p, int q) {
        ViewRewriter r = new ViewRewriter(3, 1, 4, 8);
        State.fill(r, 2, 0, p, q);
        State.fill(r, 3, k, x, y);
        int[] s = {p, q, 10, 11};
        for (int code = 0; code < 3 * 25; code++) {
            int kind = code / 25;
            int left = code / 5 % 5;
            int right = code % 5;
            State.fill(r, 0, kind, left, right);
            for (int i = 0; i < 16; i++) {
                int[] f = {i / 4, i % 4};
                boolean fits = kind == k && (left > 1 || f[left] == s[x]) && (right > 1 || f[right] == s[y])
                        && (left != right || s[x] == s[y]);
                DUE.is("body " + k + "(" + x + "," + y + "), row " + p + "," + q + ", query " + kind + "(" + left + ","
                        + right + "), certain " + f[0] + "," + f[1], r.certain(1, f[0], f[1]), fits ? 1 : 0);
            }
            r.clear(0);
        }
    }

    private static void nothingElse() {
        DUE.says("Nothing else is a fact.");
        ViewRewriter r = new ViewRewriter(3, 2, 4, 8);
        State.fill(r, 0, 0, 0, 1);
        State.fill(r, 2, 0, 1, 2);
        State.fill(r, 1, 0, 0, 1);
        State.fill(r, 3, 1, 0, 1);
        State.fill(r, 4, 0, 0, 1);
        DUE.is("the row itself is no fact", r.certain(-1, 1, 2), 0);
        DUE.is("the candidate's atom itself is no fact", r.sound(), 0);
        DUE.is("the body of a view out of the mask gives none", r.rewritable(1), 0);
        State.fill(r, 3, 0, 1, 0);
        DUE.is("the turned fact is another", r.certain(-1, 1, 2), 0);
        DUE.is("the turned fact is another", r.sound(), 0);
        State.fill(r, 3, 0, 0, 2);
        DUE.is("a fact that ends elsewhere is another", r.certain(-1, 1, 2), 0);
        DUE.is("a fact that ends elsewhere is another", r.sound(), 0);
        ViewRewriter old = new ViewRewriter(1, 1, 4, 8);
        State.fill(old, 0, 0, 0, 1);
        State.fill(old, 2, 0, 1, 2);
        State.fill(old, 3, 0, 0, 1);
        DUE.is("a fact while its body's atom is there", old.certain(1, 1, 2), 1);
        old.drop(3, 0, 0, 1);
        DUE.is("no fact when its body's atom is gone", old.certain(1, 1, 2), 0);
        DUE.is("no fact when its body's atom is gone", old.rewritable(1), 0);
    }

    private static void emptyBody() {
        DUE.says("A triple of a view with an empty body therefore gives no facts.");
        for (int kind = 0; kind < 3; kind++) {
            for (int code = 0; code < 25; code++) {
                ViewRewriter r = new ViewRewriter(3, 3, 2, 8);
                State.fill(r, 0, kind, code / 5, code % 5);
                State.fill(r, 1, 0, 0, 0, 1, 1, 1, 2, 0, 1);
                State.fill(r, 2, 0, 0, 0, 1, 0, 0, 2, 0, 0, 0, 1, 1, 1, 0, 1, 2, 1, 0);
                String query = "query " + kind + "(" + code / 5 + "," + code % 5 + "), ";
                DUE.is(query + "certain", r.certain(-1, 0, 0), 0);
                DUE.is(query + "certain", r.certain(-1, 0, 1), 0);
                DUE.is(query + "rewritable", r.rewritable(-1), 0);
                DUE.is(query + "sound", r.sound(), 0);
            }
        }
    }

    private static void oneFunction() {
        DUE.says("The query matches the facts of T at (p,q), p and q plain terms, when there is a function f from the query"
                + " variables 0..4 to the plain terms and unknowns with f(0)=p and f(1)=q such that for every query atom"
                + " k(x,y), k(f(x),f(y)) is a fact of T.");
        int[][] rows = {{0, 0, 1}, {1, 1, 2}, {0, 2, 3}, {1, 3, 0}};
        for (int missing = -1; missing < 4; missing++) {
            ViewRewriter r = new ViewRewriter(2, 2, 4, 8);
            State.fill(r, 0, 0, 0, 2, 1, 2, 3, 0, 3, 4, 1, 4, 1);
            State.fill(r, 3, 0, 0, 1);
            State.fill(r, 4, 1, 0, 1);
            for (int i = 0; i < 4; i++) {
                if (i != missing) {
                    State.fill(r, 2, rows[i]);
                }
            }
            for (int i = 0; i < 16; i++) {
                boolean fits = missing == -1 && (i == 0 || i == 10);
                DUE.is("without row " + missing + ", certain " + i / 4 + "," + i % 4, r.certain(3, i / 4, i % 4),
                        fits ? 1 : 0);
            }
        }
        ViewRewriter r = new ViewRewriter(2, 1, 4, 8);
        State.fill(r, 0, 0, 0, 2, 1, 2, 1);
        State.fill(r, 3, 0, 0, 2, 1, 2, 1);
        State.fill(r, 2, 0, 0, 1, 0, 2, 3);
        DUE.is("both atoms at one unknown", r.certain(1, 0, 1), 1);
        DUE.is("both atoms at one unknown", r.certain(1, 2, 3), 1);
        DUE.is("the atoms at two unknowns", r.certain(1, 0, 3), 0);
        DUE.is("the atoms at two unknowns", r.certain(1, 2, 1), 0);
    }

    private static void sameImage() {
        DUE.says("Different variables may have the same image.");
        ViewRewriter r = new ViewRewriter(1, 1, 4, 8);
        State.fill(r, 0, 0, 0, 2, 0, 2, 3, 0, 3, 4, 0, 4, 1);
        State.fill(r, 1, 0, 3, 3);
        State.fill(r, 2, 0, 1, 1);
        State.fill(r, 3, 0, 0, 1);
        DUE.is("certain, all five at one value", r.certain(1, 1, 1), 1);
        DUE.is("rewritable, all five at 0", r.rewritable(1), 1);
        r.head(3, 3);
        DUE.is("sound, all five at one variable", r.sound(), 1);
        r.clear(3);
        State.fill(r, 3, 0, 0, 2, 0, 2, 2, 0, 2, 1);
        DUE.is("certain, three at one unknown", r.certain(1, 1, 1), 1);
        DUE.is("rewritable, three at one unknown", r.rewritable(1), 1);
        DUE.is("sound, three at one unknown", r.sound(), 1);
    }

    private static void emptyQuery() {
        DUE.says("A query without atoms matches always.");
        for (ViewRewriter r : Scene.all()) {
            r.clear(0);
            for (int mask = -1; mask <= 8; mask++) {
                DUE.is("rewritable(" + mask + ")", r.rewritable(mask), 1);
                for (int i = 0; i < 16; i++) {
                    DUE.is("certain(" + mask + "," + i / 4 + "," + i % 4 + ")", r.certain(mask, i / 4, i % 4), 1);
                }
            }
            for (int i = 0; i < 25; i++) {
                r.head(i / 5, i % 5);
                DUE.is("sound, head " + i / 5 + "," + i % 5, r.sound(), 1);
            }
        }
    }
}
