/** Promise 6: clearing a section, and the head that goes back with the candidate alone. */
public final class Promise06Test {
    private static final Due DUE = new Due();

    public static void main(String[] args) {
        for (int section = 0; section <= 5; section++) {
            clearsOnly(section);
        }
        wrongInputs();
        emptyCandidate();
        DUE.finish();
    }

    private static ViewRewriter filled(int without) {
        ViewRewriter x = new ViewRewriter(3, 3, 4, 8);
        int[] amounts = {4, 2, 7, 1, 3, 2};
        for (int section = 0; section <= 5; section++) {
            for (int i = 0; i < amounts[section] && section != without; i++) {
                State.fill(x, section, i % 3, i / 4, i % 4);
            }
        }
        x.head(4, 3);
        return x;
    }

    private static void clearsOnly(int section) {
        int[] amounts = {4, 2, 7, 1, 3, 2};
        ViewRewriter x = filled(-1);
        ViewRewriter y = filled(section);
        if (section == 1) {
            y.head(0, 1);
        }
        DUE.is("clear " + section, x.clear(section), amounts[section]);
        DUE.holds("clear " + section + " leaves the rest", State.of(x).equals(State.of(y)));
        DUE.is("h0 after clear " + section, x.headAt(0), section == 1 ? 0 : 4);
        DUE.is("h1 after clear " + section, x.headAt(1), section == 1 ? 1 : 3);
        DUE.is("clear " + section + " again", x.clear(section), 0);
        DUE.is("has after clear " + section, x.has(section, 0, 0, 0), 0);
        DUE.is("put after clear " + section, x.put(section, 0, 0, 0), 1);
        DUE.is("size after that", x.size(section), 1);
    }

    private static void wrongInputs() {
        ViewRewriter x = filled(-1);
        String before = State.of(x);
        for (int section : new int[] {Integer.MIN_VALUE, -1, 6, 7, Integer.MAX_VALUE}) {
            DUE.is("clear " + section, x.clear(section), -1);
        }
        DUE.holds("a bad clear changes nothing", State.of(x).equals(before));
        ViewRewriter small = new ViewRewriter(3, 1, 4, 8);
        DUE.is("clear of a view that is not", small.clear(4), -1);
        DUE.is("clear of the last view", small.clear(3), 0);
    }

    private static void emptyCandidate() {
        ViewRewriter x = new ViewRewriter(1, 1, 1, 1);
        x.head(2, 2);
        DUE.is("clear of an empty query", x.clear(0), 0);
        DUE.is("h0 stays", x.headAt(0), 2);
        DUE.is("clear of an empty candidate", x.clear(1), 0);
        DUE.is("h0 goes back", x.headAt(0), 0);
        DUE.is("h1 goes back", x.headAt(1), 1);
    }
}
