/** Promise 1: construction clamps each argument by itself, and everything is empty at first. */
public final class Promise01Test {
    private static final int[] ANY = {Integer.MIN_VALUE, -7, -1, 0, 1, 2, 3, 4, 5, 7, 8, 9, 10, Integer.MAX_VALUE};
    private static final Due DUE = new Due();

    public static void main(String[] args) {
        for (int number : ANY) {
            looksLike(number, 2, 2, 5);
            looksLike(2, number, 2, 5);
            looksLike(2, 2, number, 5);
            looksLike(2, 2, 4, number);
        }
        looksLike(Integer.MIN_VALUE, Integer.MAX_VALUE, Integer.MIN_VALUE, Integer.MAX_VALUE);
        looksLike(Integer.MAX_VALUE, Integer.MIN_VALUE, Integer.MAX_VALUE, Integer.MIN_VALUE);
        objectsAreApart();
        DUE.finish();
    }

    private static int clamp(int number, int most) {
        return Math.max(1, Math.min(most, number));
    }

    private static void looksLike(int relations, int views, int values, int rowLimit) {
        String name = "new(" + relations + "," + views + "," + values + "," + rowLimit + ") ";
        int r = clamp(relations, 3);
        int v = clamp(views, 3);
        int w = clamp(values, 4);
        ViewRewriter x = new ViewRewriter(relations, views, values, rowLimit);
        for (int section = 0; section <= 2 + v; section++) {
            DUE.is(name + "size " + section, x.size(section), 0);
        }
        DUE.is(name + "first section too many", x.size(3 + v), -1);
        DUE.is(name + "headAt(0)", x.headAt(0), 0);
        DUE.is(name + "headAt(1)", x.headAt(1), 1);
        DUE.is(name + "greatest relation", x.has(0, r - 1, 0, 0), 0);
        DUE.is(name + "no relation", x.has(0, r, 0, 0), -1);
        DUE.is(name + "greatest view", x.has(1, v - 1, 0, 0), 0);
        DUE.is(name + "no view", x.has(1, v, 0, 0), -1);
        DUE.is(name + "greatest value", x.has(2, 0, w - 1, w - 1), 0);
        DUE.is(name + "no value", x.has(2, 0, w, 0), -1);
        DUE.is(name + "certain", x.certain(0, w - 1, w - 1), 1);
        DUE.is(name + "certain", x.certain(0, w, 0), -1);
        int rows = 0;
        for (int triple = 0; triple < v * w * w; triple++) {
            if (x.put(2, triple / (w * w), triple / w % w, triple % w) == 1) {
                rows++;
            }
        }
        DUE.is(name + "rows", rows, Math.min(clamp(rowLimit, 8), v * w * w));
        DUE.is(name + "size of the rows", x.size(2), rows);
        DUE.is(name + "no view after the rows", x.has(1, v, 0, 0), -1);
    }

    private static void objectsAreApart() {
        ViewRewriter one = new ViewRewriter(3, 3, 4, 8);
        ViewRewriter other = new ViewRewriter(3, 3, 4, 8);
        String empty = State.of(other);
        State.fill(one, 0, 2, 4, 4);
        State.fill(one, 5, 2, 3, 3);
        one.head(3, 2);
        DUE.holds("another object is as before", State.of(other).equals(empty));
        DUE.holds("a later object is empty", State.of(new ViewRewriter(3, 3, 4, 8)).equals(empty));
    }
}
