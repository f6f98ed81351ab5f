import java.util.List;

/** Promise 2: adding a triple. */
public final class Promise02Test {
    private static final Due DUE = new Due();

    public static void main(String[] args) {
        order();
        refusals();
        thereAlready();
        full();
        added();
        rowsTogether();
        equalEnds();
        nothingElse();
        DUE.finish();
    }

    private static void order() {
        DUE.says("The first of these that applies decides the answer:");
        new Refusals(DUE, "put", ViewRewriter::put).whenFull();
        ViewRewriter r = Scene.full();
        for (int section = 0; section <= 5; section++) {
            int[] t = Scene.triples(section);
            DUE.is("there already and full, section " + section, r.put(section, t[0], t[1], t[2]), 0);
            DUE.is("not there and full, section " + section, r.put(section, 0, 1, 1), -2);
        }
        DUE.is("no section, and k, x and y wrong too", r.put(6, 9, 9, 9), -1);
        DUE.is("k wrong, and x and y too", r.put(0, 9, 9, 9), -1);
    }

    private static void refusals() {
        Refusals put = new Refusals(DUE, "put", ViewRewriter::put);
        DUE.says("BAD if section is not 0..2+views.");
        put.sections();
        DUE.says("BAD if k is out of range for the section: it must be a relation for QUERY and for view bodies, a view for"
                + " CANDIDATE and ROWS.");
        put.kinds();
        DUE.says("BAD if x or y is out of range for the section: 0..4 for QUERY and CANDIDATE, a value for ROWS, 0..3 for view"
                + " bodies.");
        put.terms();
        put.noOthers();
    }

    private static void thereAlready() {
        DUE.says("NO if the triple is there already, also when the section is full. Nothing changes.");
        for (int section = 0; section <= 5; section++) {
            for (int amount = 1; amount <= Scene.limit(section); amount++) {
                ViewRewriter r = Scene.empty();
                r.head(4, 3);
                Scene.fill(r, section, amount);
                String before = State.of(r);
                int[] t = Scene.triples(section);
                for (int i = 0; i < amount; i++) {
                    DUE.is("triple " + i + " again, " + amount + " in section " + section,
                            r.put(section, t[3 * i], t[3 * i + 1], t[3 * i + 2]), 0);
                }
                DUE.is("size of section " + section, r.size(section), amount);
                DUE.unchanged("puts of what is there", r, before);
            }
        }
    }

    private static void full() {
        DUE.says("FULL if the section already holds its greatest number of triples: 4 for QUERY, 4 for CANDIDATE, rowLimit for"
                + " ROWS, 3 for each view body. Nothing changes.");
        for (int rowLimit = 1; rowLimit <= 8; rowLimit++) {
            Shape shape = new Shape(3, 3, 4, rowLimit);
            for (int section = 0; section <= 5; section++) {
                ViewRewriter r = shape.make();
                List<int[]> triples = shape.triples(section);
                for (int i = 0; i < shape.limit(section); i++) {
                    int[] t = triples.get(5 * i);
                    DUE.is("triple " + i + " of section " + section, r.put(section, t[0], t[1], t[2]), 1);
                }
                String before = State.of(r);
                for (int[] t : triples) {
                    if (r.has(section, t[0], t[1], t[2]) == 0) {
                        DUE.is("one too many in section " + section, r.put(section, t[0], t[1], t[2]), -2);
                    }
                }
                DUE.is("size of section " + section, r.size(section), shape.limit(section));
                DUE.unchanged("a put in the full section " + section, r, before);
            }
        }
    }

    private static void added() {
        DUE.says("Otherwise the triple is added and the answer is YES.");
        Shape shape = new Shape(3, 3, 4, 8);
        for (int section = 0; section <= 5; section++) {
            for (int[] t : shape.triples(section)) {
                ViewRewriter r = shape.make();
                String name = "put(" + section + "," + t[0] + "," + t[1] + "," + t[2] + ")";
                DUE.is(name, r.put(section, t[0], t[1], t[2]), 1);
                DUE.is("size after " + name, r.size(section), 1);
                for (int[] u : shape.triples(section)) {
                    boolean same = t[0] == u[0] && t[1] == u[1] && t[2] == u[2];
                    DUE.is("has " + u[0] + "," + u[1] + "," + u[2] + " after " + name,
                            r.has(section, u[0], u[1], u[2]), same ? 1 : 0);
                }
            }
        }
        for (int section = 0; section <= 5; section++) {
            ViewRewriter r = Scene.full();
            int[] t = Scene.triples(section);
            for (int i = 0; i < t.length; i += 3) {
                r.drop(section, t[i], t[i + 1], t[i + 2]);
                DUE.is("room again after a drop", r.put(section, 0, 1, 1), 1);
                DUE.is("full again", r.put(section, t[i], t[i + 1], t[i + 2]), -2);
                r.drop(section, 0, 1, 1);
                DUE.is("the first one back", r.put(section, t[i], t[i + 1], t[i + 2]), 1);
            }
        }
    }

    private static void rowsTogether() {
        DUE.says("The limit of ROWS is for the rows of all views together; each view body has its own limit.");
        for (int rowLimit = 1; rowLimit <= 8; rowLimit++) {
            ViewRewriter r = new ViewRewriter(3, 3, 4, rowLimit);
            for (int i = 0; i < 12; i++) {
                DUE.is("row " + i + " of limit " + rowLimit, r.put(2, i % 3, i / 4, i % 4), i < rowLimit ? 1 : -2);
            }
        }
        ViewRewriter r = new ViewRewriter(3, 3, 4, 1);
        for (int i = 0; i < 4; i++) {
            for (int view = 0; view < 3; view++) {
                DUE.is("atom " + i + " of view " + view, r.put(3 + view, view, i, i), i < 3 ? 1 : -2);
            }
        }
    }

    private static void equalEnds() {
        DUE.says("x = y is allowed.");
        Shape shape = new Shape(3, 3, 4, 8);
        for (int section = 0; section <= 5; section++) {
            for (int x = 0; x < shape.terms(section); x++) {
                ViewRewriter r = shape.make();
                DUE.is("put(" + section + ",1," + x + "," + x + ")", r.put(section, 1, x, x), 1);
                DUE.is("has(" + section + ",1," + x + "," + x + ")", r.has(section, 1, x, x), 1);
            }
        }
    }

    private static void nothingElse() {
        DUE.says("No other section changes, and the candidate's head does not change.");
        for (int section = 0; section <= 5; section++) {
            ViewRewriter r = new ViewRewriter(3, 3, 4, 8);
            r.head(4, 2);
            for (int i = 0; i < Scene.limit(section); i++) {
                State.fill(r, section, 2, i / 4, i % 4);
                for (int other = 0; other <= 5; other++) {
                    DUE.is("size of " + other + " after a put in " + section, r.size(other), other == section ? i + 1 : 0);
                }
                DUE.is("h0 after a put in " + section, r.headAt(0), 4);
                DUE.is("h1 after a put in " + section, r.headAt(1), 2);
            }
        }
        ViewRewriter r = Scene.holding(2);
        for (int section = 0; section <= 5; section++) {
            String[] before = new String[6];
            for (int other = 0; other <= 5; other++) {
                before[other] = State.section(r, other);
            }
            State.fill(r, section, 1, 1, 1);
            for (int other = 0; other <= 5; other++) {
                DUE.holds("section " + other + " after a put in " + section,
                        State.section(r, other).equals(before[other]) == (other != section));
            }
            DUE.is("h0 after a put in " + section, r.headAt(0), 3);
            DUE.is("h1 after a put in " + section, r.headAt(1), 2);
        }
    }
}
