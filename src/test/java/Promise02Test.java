/** Promise 2: put, its six cases and their order. */
public final class Promise02Test {
    private static final int[] FAR = {Integer.MIN_VALUE, -100, -1, 100, Integer.MAX_VALUE};
    private static final Due DUE = new Due();

    public static void main(String[] args) {
        wrongInputs();
        limits();
        otherSectionsStay();
        DUE.finish();
    }

    private static void bad(ViewRewriter x, int section, int k, int a, int b) {
        String before = State.of(x);
        DUE.is("put(" + section + "," + k + "," + a + "," + b + ")", x.put(section, k, a, b), -1);
        DUE.holds("a bad put changes nothing", State.of(x).equals(before));
    }

    private static void wrongInputs() {
        ViewRewriter x = new ViewRewriter(1, 2, 3, 2);
        for (int far : FAR) {
            bad(x, far, 0, 0, 0);
            for (int section = 0; section <= 4; section++) {
                bad(x, section, far, 0, 0);
                bad(x, section, 0, far, 0);
                bad(x, section, 0, 0, far);
            }
        }
        bad(x, 5, 0, 0, 0);
        bad(x, 0, 1, 0, 0);
        bad(x, 1, 2, 0, 0);
        bad(x, 2, 2, 0, 0);
        bad(x, 3, 1, 0, 0);
        bad(x, 4, 1, 0, 0);
        bad(x, 0, 0, 5, 0);
        bad(x, 0, 0, 0, 5);
        bad(x, 1, 0, 5, 0);
        bad(x, 1, 0, 0, 5);
        bad(x, 2, 0, 3, 0);
        bad(x, 2, 0, 0, 3);
        bad(x, 3, 0, 4, 0);
        bad(x, 4, 0, 0, 4);
        State.fill(x, 2, 0, 0, 0, 1, 2, 2);
        bad(x, 2, 0, 3, 0);
        bad(x, 2, 2, 0, 0);
    }

    /** Fills the section with (kind, 0, 0), (kind, 0, 1), ... to its limit and one further. */
    private static void fillsAt(ViewRewriter x, int section, int kind, int width, int limit) {
        String name = "section " + section + " triple ";
        for (int i = 0; i < limit; i++) {
            DUE.is(name + i, x.put(section, kind, i / width, i % width), 1);
            DUE.is(name + i + " again", x.put(section, kind, i / width, i % width), 0);
            DUE.is(name + i + " size", x.size(section), i + 1);
        }
        String full = State.of(x);
        DUE.is(name + "too many", x.put(section, kind, limit / width, limit % width), -2);
        DUE.is(name + "first again when full", x.put(section, kind, 0, 0), 0);
        DUE.is(name + "last again when full", x.put(section, kind, (limit - 1) / width, (limit - 1) % width), 0);
        DUE.is(name + "bad when full", x.put(section, kind, 0, width), -1);
        DUE.holds(name + "nothing changes when full", State.of(x).equals(full));
    }

    private static void limits() {
        ViewRewriter x = new ViewRewriter(3, 3, 4, 8);
        fillsAt(x, 0, 2, 5, 4);
        fillsAt(x, 1, 2, 5, 4);
        fillsAt(x, 2, 2, 4, 8);
        fillsAt(x, 3, 2, 4, 3);
        fillsAt(x, 4, 1, 4, 3);
        fillsAt(x, 5, 0, 4, 3);
        DUE.is("a row of another view when full", x.put(2, 0, 0, 0), -2);
        for (int rowLimit = 1; rowLimit <= 8; rowLimit++) {
            fillsAt(new ViewRewriter(1, 1, 4, rowLimit), 2, 0, 4, rowLimit);
        }
        ViewRewriter y = new ViewRewriter(3, 3, 4, 3);
        State.fill(y, 2, 0, 1, 1, 1, 1, 1, 2, 1, 1);
        DUE.is("rows of all views count together", y.put(2, 0, 1, 2), -2);
        DUE.is("room again after a drop", y.drop(2, 1, 1, 1), 1);
        DUE.is("put after the drop", y.put(2, 0, 1, 2), 1);
        DUE.is("full again", y.put(2, 0, 1, 3), -2);
    }

    private static void otherSectionsStay() {
        ViewRewriter x = new ViewRewriter(3, 3, 4, 8);
        x.head(4, 2);
        for (int section = 0; section <= 5; section++) {
            DUE.is("put", x.put(section, 2, 3, 1), 1);
            for (int other = 0; other <= 5; other++) {
                DUE.is("size of " + other + " after put in " + section, x.size(other), other <= section ? 1 : 0);
                DUE.is("has in " + other, x.has(other, 2, 3, 1), other <= section ? 1 : 0);
                DUE.is("has turned in " + other, x.has(other, 2, 1, 3), 0);
            }
        }
        DUE.is("head after put", x.headAt(0), 4);
        DUE.is("head after put", x.headAt(1), 2);
        DUE.is("x = y", x.put(0, 0, 4, 4), 1);
        DUE.is("another kind is another triple", x.put(0, 1, 4, 4), 1);
    }
}
