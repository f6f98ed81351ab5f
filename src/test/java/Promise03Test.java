/** Promise 3: removing a triple. */
public final class Promise03Test {
    private static final Due DUE = new Due();

    public static void main(String[] args) {
        refusals();
        notThere();
        removed();
        neverFull();
        nothingElse();
        DUE.finish();
    }

    private static void refusals() {
        DUE.says("It answers BAD exactly as in put (cases 1 to 3 of Promise 2), and nothing changes.");
        Refusals drop = new Refusals(DUE, "drop", ViewRewriter::drop);
        drop.sections();
        drop.kinds();
        drop.terms();
        drop.noOthers();
        drop.whenFull();
    }

    private static void notThere() {
        DUE.says("It answers NO if the triple is not there, and nothing changes.");
        Shape shape = new Shape(3, 3, 4, 8);
        for (ViewRewriter r : Scene.all()) {
            String before = State.of(r);
            for (int section = 0; section <= 5; section++) {
                for (int[] t : shape.triples(section)) {
                    if (r.has(section, t[0], t[1], t[2]) == 0) {
                        DUE.is("drop(" + section + "," + t[0] + "," + t[1] + "," + t[2] + ")",
                                r.drop(section, t[0], t[1], t[2]), 0);
                    }
                }
            }
            DUE.unchanged("drops of what is not there", r, before);
        }
    }

    private static void removed() {
        DUE.says("Otherwise the triple is removed and the answer is YES.");
        for (int section = 0; section <= 5; section++) {
            int[] t = Scene.triples(section);
            for (int i = 0; i < t.length; i += 3) {
                ViewRewriter r = Scene.full();
                DUE.is("drop " + i / 3 + " of " + section, r.drop(section, t[i], t[i + 1], t[i + 2]), 1);
                DUE.is("it is gone", r.has(section, t[i], t[i + 1], t[i + 2]), 0);
                DUE.is("one less", r.size(section), t.length / 3 - 1);
                DUE.is("drop again", r.drop(section, t[i], t[i + 1], t[i + 2]), 0);
            }
            ViewRewriter r = Scene.full();
            for (int i = 0; i < t.length; i += 3) {
                DUE.is("drop one after the other", r.drop(section, t[i], t[i + 1], t[i + 2]), 1);
                DUE.is("one less again", r.size(section), t.length / 3 - 1 - i / 3);
            }
            DUE.is("drop of an empty section", r.drop(section, t[0], t[1], t[2]), 0);
        }
    }

    private static void neverFull() {
        DUE.says("It never answers FULL.");
        for (int section = 0; section <= 5; section++) {
            ViewRewriter r = Scene.full();
            int[] t = Scene.triples(section);
            DUE.is("not there, section " + section + " full", r.drop(section, 0, 1, 1), 0);
            DUE.is("there, section " + section + " full", r.drop(section, t[0], t[1], t[2]), 1);
            DUE.is("wrong, section " + section + " full", r.drop(section, 3, 1, 1), -1);
        }
    }

    /** Whichever triple goes, the others stay; so the place in which one is kept cannot matter. */
    private static void nothingElse() {
        DUE.says("No other triple and no other section changes, and the candidate's head does not change, even when the last"
                + " candidate atom is removed.");
        for (int section = 0; section <= 5; section++) {
            int[] t = Scene.triples(section);
            for (int gone = 0; gone < t.length; gone += 3) {
                ViewRewriter with = Scene.full();
                with.drop(section, t[gone], t[gone + 1], t[gone + 2]);
                DUE.unchanged("drop of " + gone / 3 + " in " + section + ", beside one never put", with,
                        State.of(without(section, gone)));
            }
        }
        ViewRewriter r = Scene.full();
        int[] t = Scene.triples(1);
        for (int i = 0; i < t.length; i += 3) {
            DUE.is("drop of a candidate atom", r.drop(1, t[i], t[i + 1], t[i + 2]), 1);
            DUE.is("h0 stays", r.headAt(0), 3);
            DUE.is("h1 stays", r.headAt(1), 2);
        }
        DUE.is("no candidate atom is left", r.size(1), 0);
    }

    private static ViewRewriter without(int section, int gone) {
        ViewRewriter r = Scene.full();
        r.clear(section);
        r.head(3, 2);
        int[] t = Scene.triples(section);
        for (int i = 0; i < t.length; i += 3) {
            if (i != gone) {
                State.fill(r, section, t[i], t[i + 1], t[i + 2]);
            }
        }
        return r;
    }
}
