/** Promise 3: drop removes one triple and touches nothing else. */
public final class Promise03Test {
    private static final int[] FAR = {Integer.MIN_VALUE, -1, 5, 6, Integer.MAX_VALUE};
    private static final Due DUE = new Due();

    public static void main(String[] args) {
        wrongInputs();
        eachOfThem();
        headStays();
        DUE.finish();
    }

    private static void wrongInputs() {
        ViewRewriter x = new ViewRewriter(2, 1, 2, 8);
        State.fill(x, 0, 1, 4, 4);
        State.fill(x, 1, 0, 4, 4);
        State.fill(x, 2, 0, 1, 1);
        State.fill(x, 3, 1, 3, 3);
        String before = State.of(x);
        for (int far : FAR) {
            DUE.is("drop section " + far, x.drop(far, 0, 0, 0), -1);
            for (int section = 0; section <= 3; section++) {
                DUE.is("drop k " + far, x.drop(section, far, 0, 0), -1);
                DUE.is("drop x " + far, x.drop(section, 0, far, 0), -1);
                DUE.is("drop y " + far, x.drop(section, 0, 0, far), -1);
            }
        }
        DUE.is("drop of no section", x.drop(4, 0, 0, 0), -1);
        DUE.is("drop of no relation", x.drop(0, 2, 0, 0), -1);
        DUE.is("drop of no relation in a body", x.drop(3, 2, 0, 0), -1);
        DUE.is("drop of no view", x.drop(1, 1, 0, 0), -1);
        DUE.is("drop of no view in rows", x.drop(2, 1, 0, 0), -1);
        DUE.is("drop of no value", x.drop(2, 0, 0, 2), -1);
        DUE.is("drop of no view variable", x.drop(3, 0, 4, 0), -1);
        DUE.is("drop of a triple not there", x.drop(0, 1, 4, 3), 0);
        DUE.is("drop of another kind", x.drop(0, 0, 4, 4), 0);
        DUE.is("drop of a triple of another section", x.drop(3, 1, 1, 1), 0);
        DUE.holds("nothing has changed", State.of(x).equals(before));
    }

    /** Whichever triple goes, the others stay; so the place in which one is kept cannot matter. */
    private static void eachOfThem() {
        for (int section = 0; section <= 5; section++) {
            int most = section == 2 ? 8 : section < 2 ? 4 : 3;
            for (int gone = 0; gone < most; gone++) {
                ViewRewriter x = new ViewRewriter(3, 3, 4, 8);
                ViewRewriter y = new ViewRewriter(3, 3, 4, 8);
                for (int i = 0; i < most; i++) {
                    x.put(section, i % 3, i / 4, i % 4);
                    if (i != gone) {
                        y.put(section, i % 3, i / 4, i % 4);
                    }
                }
                State.fill(x, (section + 1) % 6, 1, 2, 3);
                State.fill(y, (section + 1) % 6, 1, 2, 3);
                String name = "drop of " + gone + " in " + section;
                DUE.is(name, x.drop(section, gone % 3, gone / 4, gone % 4), 1);
                DUE.holds(name + " leaves the others", State.of(x).equals(State.of(y)));
                DUE.is(name + " again", x.drop(section, gone % 3, gone / 4, gone % 4), 0);
                DUE.is(name + " has", x.has(section, gone % 3, gone / 4, gone % 4), 0);
                DUE.is(name + " size", x.size(section), most - 1);
                DUE.is(name + " and put", x.put(section, gone % 3, gone / 4, gone % 4), 1);
                DUE.is(name + " size after put", x.size(section), most);
            }
        }
    }

    private static void headStays() {
        ViewRewriter x = new ViewRewriter(3, 3, 4, 8);
        State.fill(x, 1, 0, 0, 1);
        x.head(3, 3);
        DUE.is("drop of the last candidate atom", x.drop(1, 0, 0, 1), 1);
        DUE.is("size", x.size(1), 0);
        DUE.is("h0 stays", x.headAt(0), 3);
        DUE.is("h1 stays", x.headAt(1), 3);
    }
}
