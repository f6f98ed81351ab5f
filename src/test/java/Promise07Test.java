/** Promise 7: the candidate's head. */
public final class Promise07Test {
    private static final Due DUE = new Due();

    public static void main(String[] args) {
        refusals();
        sets();
        anyPair();
        sectionsStay();
        positions();
        DUE.finish();
    }

    private static void refusals() {
        DUE.says("head(x, y) answers BAD if x or y is not 0..4, and nothing changes.");
        ViewRewriter r = Scene.full();
        r.head(2, 3);
        String before = State.of(r);
        for (int number : Numbers.outside(5)) {
            for (int good = 0; good < 5; good++) {
                DUE.is("head(" + number + "," + good + ")", r.head(number, good), -1);
                DUE.is("head(" + good + "," + number + ")", r.head(good, number), -1);
            }
            DUE.is("head(" + number + "," + number + ")", r.head(number, number), -1);
            DUE.is("h0 after that", r.headAt(0), 2);
            DUE.is("h1 after that", r.headAt(1), 3);
        }
        DUE.unchanged("heads that are none", r, before);
    }

    private static void sets() {
        DUE.says("Otherwise it sets the candidate's head to (x,y), so that h0 = x and h1 = y, and answers YES, also when the head"
                + " was (x,y) already.");
        ViewRewriter r = new ViewRewriter(1, 1, 1, 1);
        DUE.is("the first head again", r.head(0, 1), 1);
        for (int x = 0; x < 5; x++) {
            for (int y = 0; y < 5; y++) {
                for (int time = 0; time < 3; time++) {
                    DUE.is("head(" + x + "," + y + ") time " + time, r.head(x, y), 1);
                    DUE.is("h0 after head(" + x + "," + y + ")", r.headAt(0), x);
                    DUE.is("h1 after head(" + x + "," + y + ")", r.headAt(1), y);
                }
            }
        }
    }

    private static void anyPair() {
        DUE.says("x = y is allowed, and x and y need not occur in any candidate atom.");
        ViewRewriter r = new ViewRewriter(1, 1, 1, 1);
        for (int atoms = 0; atoms < 3; atoms++) {
            for (int x = 0; x < 5; x++) {
                for (int y = 0; y < 5; y++) {
                    DUE.is(atoms + " atoms, head(" + x + "," + y + ")", r.head(x, y), 1);
                    DUE.is(atoms + " atoms, h0 of " + x + "," + y, r.headAt(0), x);
                    DUE.is(atoms + " atoms, h1 of " + x + "," + y, r.headAt(1), y);
                }
            }
            State.fill(r, 1, 0, 2 * atoms, 2 * atoms);
        }
    }

    private static void sectionsStay() {
        DUE.says("No section changes.");
        for (int code = 0; code < 25; code++) {
            for (ViewRewriter r : Scene.all()) {
                String sizes = State.part(r, 1);
                String sections = State.part(r, 2);
                r.head(code / 5, code % 5);
                DUE.holds("sizes after head(" + code / 5 + "," + code % 5 + ")", State.part(r, 1).equals(sizes));
                DUE.holds("sections after head(" + code / 5 + "," + code % 5 + ")", State.part(r, 2).equals(sections));
            }
        }
    }

    private static void positions() {
        DUE.says("headAt(position) answers h0 if position is 0, h1 if position is 1, and BAD for every other position.");
        ViewRewriter r = new ViewRewriter(1, 1, 1, 1);
        DUE.is("headAt(0) at first", r.headAt(0), 0);
        DUE.is("headAt(1) at first", r.headAt(1), 1);
        r.head(4, 3);
        DUE.is("headAt(0)", r.headAt(0), 4);
        DUE.is("headAt(1)", r.headAt(1), 3);
        for (int position : Numbers.outside(2)) {
            DUE.is("headAt(" + position + ")", r.headAt(position), -1);
        }
        DUE.says("It changes nothing.");
        for (int position = -1; position <= 2; position++) {
            int asked = position;
            Unchanging.ask(DUE, "headAt(" + position + ")", scene -> scene.headAt(asked));
        }
    }
}
