/** Promise 6: clearing a section. */
public final class Promise06Test {
    private static final Due DUE = new Due();

    public static void main(String[] args) {
        refusals();
        removesAll();
        headGoesBack();
        headStays();
        othersStay();
        DUE.finish();
    }

    private static void refusals() {
        DUE.says("clear(section) answers BAD if section is not 0..2+views, and nothing changes.");
        for (int views = 1; views <= 3; views++) {
            ViewRewriter r = new ViewRewriter(3, views, 4, 8);
            for (int section = 0; section <= 2 + views; section++) {
                State.fill(r, section, 0, 0, 1);
            }
            r.head(4, 3);
            String before = State.of(r);
            for (int section : Numbers.outside(3 + views)) {
                DUE.is("clear(" + section + ") of " + views + " views", r.clear(section), -1);
            }
            DUE.unchanged("clears of no section", r, before);
        }
    }

    private static void removesAll() {
        DUE.says("Otherwise it removes all triples of that section and answers how many there were (0 if none).");
        for (int section = 0; section <= 5; section++) {
            for (int amount = 0; amount <= Scene.limit(section); amount++) {
                ViewRewriter r = Scene.empty();
                String empty = State.of(r);
                Scene.fill(r, section, amount);
                DUE.is("clear(" + section + ") of " + amount, r.clear(section), amount);
                DUE.unchanged("clear(" + section + "), beside a new object", r, empty);
                DUE.is("clear(" + section + ") again", r.clear(section), 0);
                Scene.fill(r, section, Scene.limit(section));
                DUE.is("clear(" + section + ") filled again", r.clear(section), Scene.limit(section));
            }
        }
    }

    private static void headGoesBack() {
        DUE.says("clear(CANDIDATE) also sets the candidate's head back to (0,1), even if the candidate had no atoms.");
        for (int amount = 0; amount <= 4; amount++) {
            for (int code = 0; code < 25; code++) {
                ViewRewriter r = Scene.empty();
                Scene.fill(r, 1, amount);
                r.head(code / 5, code % 5);
                DUE.is("clear(1) of " + amount, r.clear(1), amount);
                DUE.is("h0 after head " + code / 5 + "," + code % 5 + " and clear", r.headAt(0), 0);
                DUE.is("h1 after head " + code / 5 + "," + code % 5 + " and clear", r.headAt(1), 1);
            }
        }
    }

    private static void headStays() {
        DUE.says("Clearing any other section leaves the candidate's head as it is.");
        for (int section : new int[] {0, 2, 3, 4, 5}) {
            for (int amount = 0; amount <= Scene.limit(section); amount++) {
                ViewRewriter r = Scene.empty();
                Scene.fill(r, section, amount);
                r.head(4, 3);
                r.clear(section);
                DUE.is("h0 after clear(" + section + ") of " + amount, r.headAt(0), 4);
                DUE.is("h1 after clear(" + section + ") of " + amount, r.headAt(1), 3);
            }
        }
    }

    private static void othersStay() {
        DUE.says("No other section changes; in particular, clearing a view body leaves the rows and candidate atoms of that view"
                + " in place.");
        for (int section = 0; section <= 5; section++) {
            ViewRewriter r = Scene.full();
            ViewRewriter due = Scene.empty();
            for (int other = 0; other <= 5; other++) {
                Scene.fill(due, other, other == section ? 0 : Scene.limit(other));
            }
            if (section != 1) {
                due.head(3, 2);
            }
            r.clear(section);
            DUE.unchanged("clear(" + section + "), beside an object without it", r, State.of(due));
        }
        for (int view = 0; view < 3; view++) {
            ViewRewriter r = Scene.empty();
            State.fill(r, 1, view, 2, 4);
            State.fill(r, 2, view, 3, 1, view, 1, 3);
            State.fill(r, 3 + view, 0, 0, 1);
            DUE.is("clear of the body of view " + view, r.clear(3 + view), 1);
            DUE.is("its candidate atom", r.has(1, view, 2, 4), 1);
            DUE.is("its first row", r.has(2, view, 3, 1), 1);
            DUE.is("its second row", r.has(2, view, 1, 3), 1);
            DUE.is("rows", r.size(2), 2);
        }
    }
}
