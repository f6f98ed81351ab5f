/** Promise 4: asking for a triple. */
public final class Promise04Test {
    private static final Due DUE = new Due();

    public static void main(String[] args) {
        DUE.says("has(section, k, x, y) answers BAD exactly as in put (cases 1 to 3 of Promise 2); otherwise YES if the triple"
                + " is in the section, else NO.");
        Refusals has = new Refusals(DUE, "has", ViewRewriter::has);
        has.sections();
        has.kinds();
        has.terms();
        has.noOthers();
        has.whenFull();
        thereOrNot();
        DUE.says("It changes nothing.");
        for (int section = -1; section <= 6; section++) {
            int asked = section;
            Unchanging.ask(DUE, "has in section " + section, r -> State.section(r, asked));
        }
        DUE.finish();
    }

    private static void thereOrNot() {
        Shape shape = new Shape(3, 3, 4, 8);
        for (int most = 0; most <= 8; most++) {
            ViewRewriter r = Scene.holding(most);
            for (int section = 0; section <= 5; section++) {
                for (int[] t : shape.triples(section)) {
                    DUE.is("has(" + section + "," + t[0] + "," + t[1] + "," + t[2] + ") with " + most,
                            r.has(section, t[0], t[1], t[2]), isAmong(Scene.triples(section), most, t) ? 1 : 0);
                }
            }
        }
    }

    private static boolean isAmong(int[] triples, int most, int[] t) {
        for (int i = 0; i < triples.length && i < 3 * most; i += 3) {
            if (triples[i] == t[0] && triples[i + 1] == t[1] && triples[i + 2] == t[2]) {
                return true;
            }
        }
        return false;
    }
}
