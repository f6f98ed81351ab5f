/** Promise 1: construction and the start. */
public final class Promise01Test {
    private static final Due DUE = new Due();

    public static void main(String[] args) {
        everyInt();
        clampedByItself();
        DUE.says("relations: 1..3");
        for (int number : Numbers.wide()) {
            looksLike(number, 2, 2, 5);
        }
        DUE.says("views: 1..3");
        for (int number : Numbers.wide()) {
            looksLike(2, number, 2, 5);
        }
        DUE.says("values: 1..4");
        for (int number : Numbers.wide()) {
            looksLike(2, 2, number, 5);
        }
        DUE.says("rowLimit: 1..8");
        for (int number : Numbers.wide()) {
            looksLike(2, 2, 4, number);
        }
        emptyAtFirst();
        objectsAreApart();
        neverChange();
        DUE.finish();
    }

    private static int clamp(int number, int most) {
        return Math.max(1, Math.min(most, number));
    }

    private static void everyInt() {
        DUE.says("ViewRewriter(relations, views, values, rowLimit) accepts every int for each argument.");
        for (int number : Numbers.wide()) {
            looksLike(number, number, number, number);
        }
    }

    private static void clampedByItself() {
        DUE.says("Each argument is clamped by itself: below the least it becomes the least, above the greatest it becomes the"
                + " greatest.");
        int[] edges = {Integer.MIN_VALUE, 0, 1, 2, 9, Integer.MAX_VALUE};
        for (int relations : edges) {
            for (int views : edges) {
                for (int values : edges) {
                    for (int rowLimit : edges) {
                        looksLike(relations, views, values, rowLimit);
                    }
                }
            }
        }
    }

    private static void looksLike(int relations, int views, int values, int rowLimit) {
        String name = "new(" + relations + "," + views + "," + values + "," + rowLimit + ") ";
        Shape due = new Shape(clamp(relations, 3), clamp(views, 3), clamp(values, 4), clamp(rowLimit, 8));
        looksLike(name, new ViewRewriter(relations, views, values, rowLimit), due);
    }

    /** Tells the four numbers of an object without rows by what it takes; the rows are cleared afterwards. */
    private static void looksLike(String name, ViewRewriter r, Shape due) {
        DUE.is(name + "last section", r.size(2 + due.views), 0);
        DUE.is(name + "first section too many", r.size(3 + due.views), -1);
        DUE.is(name + "greatest relation", r.has(0, due.relations - 1, 0, 0), 0);
        DUE.is(name + "no relation", r.has(0, due.relations, 0, 0), -1);
        DUE.is(name + "greatest relation of a body", r.has(3, due.relations - 1, 0, 0), 0);
        DUE.is(name + "no relation of a body", r.has(3, due.relations, 0, 0), -1);
        DUE.is(name + "greatest view", r.has(1, due.views - 1, 0, 0), 0);
        DUE.is(name + "no view", r.has(1, due.views, 0, 0), -1);
        DUE.is(name + "greatest value", r.has(2, 0, due.values - 1, due.values - 1), 0);
        DUE.is(name + "no value", r.has(2, 0, due.values, 0), -1);
        DUE.is(name + "greatest value of candidateHas", r.candidateHas(due.values - 1, 0) == -1 ? -1 : 0, 0);
        DUE.is(name + "no value of candidateHas", r.candidateHas(due.values, 0), -1);
        DUE.is(name + "no value of certain", r.certain(0, 0, due.values), -1);
        int rows = 0;
        for (int[] t : due.triples(2)) {
            rows += r.put(2, t[0], t[1], t[2]) == 1 ? 1 : 0;
        }
        DUE.is(name + "rows taken", rows, Math.min(due.rowLimit, due.triples(2).size()));
        DUE.is(name + "rows cleared", r.clear(2), rows);
    }

    private static void emptyAtFirst() {
        DUE.says("All sections are empty at first, and the candidate's head is (0,1).");
        for (Shape shape : Shape.all()) {
            ViewRewriter r = shape.make();
            DUE.is(shape + " h0", r.headAt(0), 0);
            DUE.is(shape + " h1", r.headAt(1), 1);
            for (int section = 0; section < shape.sections(); section++) {
                DUE.is(shape + " size of " + section, r.size(section), 0);
                for (int[] t : shape.triples(section)) {
                    DUE.is(shape + " has(" + section + "," + t[0] + "," + t[1] + "," + t[2] + ")",
                            r.has(section, t[0], t[1], t[2]), 0);
                }
            }
            DUE.is(shape + " coreSize", r.coreSize(), 0);
        }
    }

    /** What one object is told is not at the start of another. */
    private static void objectsAreApart() {
        ViewRewriter other = Scene.empty();
        String empty = State.of(other);
        ViewRewriter one = Scene.full();
        DUE.holds("the full object is another", !State.of(one).equals(empty));
        DUE.unchanged("filling another object", other, empty);
        DUE.unchanged("filling an earlier object", Scene.empty(), empty);
    }

    private static void neverChange() {
        DUE.says("These four numbers never change afterwards.");
        for (Shape shape : Shape.all()) {
            ViewRewriter r = shape.make();
            for (int section = -1; section <= shape.sections(); section++) {
                r.put(section, 3, 5, 5);
                r.put(section, shape.kinds(section) - 1, shape.terms(section) - 1, shape.terms(section) - 1);
                r.drop(section, shape.kinds(section), shape.terms(section), 0);
            }
            r.head(4, 4);
            r.head(5, 9);
            State.of(r);
            for (int section = -1; section <= shape.sections(); section++) {
                r.clear(section);
            }
            looksLike(shape + " after calls, ", r, shape);
            looksLike(shape + " after calls and rows, ", r, shape);
        }
    }
}
