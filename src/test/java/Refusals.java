/** The wrong sections and triples, for the three calls that refuse them in the same way. */
final class Refusals {
    /** One of put, drop and has. */
    interface Call {
        int on(ViewRewriter r, int section, int k, int x, int y);
    }

    private final Due due;
    private final String name;
    private final Call call;

    Refusals(Due due, String name, Call call) {
        this.due = due;
        this.name = name;
        this.call = call;
    }

    private void bad(ViewRewriter r, int section, int k, int x, int y) {
        due.is(name + "(" + section + "," + k + "," + x + "," + y + ")", call.on(r, section, k, x, y), -1);
    }

    void sections() {
        for (int views = 1; views <= 3; views++) {
            ViewRewriter r = new ViewRewriter(3, views, 4, 8);
            String before = State.of(r);
            for (int section : Numbers.outside(3 + views)) {
                bad(r, section, 0, 0, 0);
            }
            due.unchanged(name + " with wrong sections", r, before);
        }
    }

    void kinds() {
        for (Shape shape : Shape.all()) {
            ViewRewriter r = shape.make();
            String before = State.of(r);
            for (int section = 0; section < shape.sections(); section++) {
                for (int k : Numbers.outside(shape.kinds(section))) {
                    bad(r, section, k, 0, 0);
                }
            }
            due.unchanged(name + " with wrong k of " + shape, r, before);
        }
    }

    void terms() {
        for (Shape shape : Shape.all()) {
            ViewRewriter r = shape.make();
            String before = State.of(r);
            for (int section = 0; section < shape.sections(); section++) {
                for (int term : Numbers.outside(shape.terms(section))) {
                    bad(r, section, 0, term, 0);
                    bad(r, section, 0, 0, term);
                    bad(r, section, 0, term, term);
                }
            }
            due.unchanged(name + " with wrong x or y of " + shape, r, before);
        }
    }

    /** Nothing but the wrong ones is refused. */
    void noOthers() {
        for (Shape shape : Shape.all()) {
            for (int section = 0; section < shape.sections(); section++) {
                for (int[] t : shape.triples(section)) {
                    int answer = call.on(shape.make(), section, t[0], t[1], t[2]);
                    due.holds(name + "(" + section + "," + t[0] + "," + t[1] + "," + t[2] + ") of " + shape
                            + " is not refused", answer != -1);
                }
            }
        }
    }

    /** A full section refuses the wrong ones as an empty one does. */
    void whenFull() {
        ViewRewriter r = Scene.full();
        String before = State.of(r);
        for (int section = 0; section <= 5; section++) {
            int terms = section < 2 ? 5 : 4;
            bad(r, section, 3, 0, 0);
            bad(r, section, -1, 0, 0);
            bad(r, section, 0, terms, 0);
            bad(r, section, 0, 0, terms);
            bad(r, section, 0, -1, 0);
            bad(r, section, 0, 0, -1);
        }
        bad(r, 6, 0, 0, 0);
        bad(r, -1, 0, 0, 0);
        due.unchanged(name + " with wrong numbers when all is full", r, before);
    }
}
