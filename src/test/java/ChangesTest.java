/** "Terms used": changes. */
public final class ChangesTest {
    private static final Due DUE = new Due();

    public static void main(String[] args) {
        refusedCalls();
        questions();
        DUE.finish();
    }

    private static void refusedCalls() {
        DUE.says("Every call that answers BAD or FULL changes nothing.");
        for (ViewRewriter r : Scene.all()) {
            String before = State.of(r);
            for (int number : Numbers.outside(6)) {
                wrongNumber(r, number);
            }
            for (int number : new int[] {3, 4, 5}) {
                DUE.is("put of k " + number, r.put(0, number, 0, 0), -1);
                DUE.is("drop of k " + number, r.drop(0, number, 0, 0), -1);
            }
            DUE.is("certain of 4", r.certain(-1, 4, 0), -1);
            DUE.is("candidateHas of 4", r.candidateHas(0, 4), -1);
            DUE.is("head of 5", r.head(4, 5), -1);
            DUE.is("head of 5", r.head(5, 4), -1);
            DUE.unchanged("calls that answer BAD", r, before);
        }
        ViewRewriter full = Scene.full();
        String before = State.of(full);
        for (int section = 0; section <= 5; section++) {
            for (int k = 0; k < 3; k++) {
                DUE.is("put in full section " + section, full.put(section, k, 1, 1), -2);
                DUE.is("put in full section " + section, full.put(section, k, 1, 1), -2);
            }
        }
        DUE.unchanged("calls that answer FULL", full, before);
    }

    private static void wrongNumber(ViewRewriter r, int number) {
        for (int section = 0; section <= 5; section++) {
            DUE.is("put of k " + number, r.put(section, number, 0, 0), -1);
            DUE.is("put of x " + number, r.put(section, 0, number, 0), -1);
            DUE.is("put of y " + number, r.put(section, 0, 0, number), -1);
            DUE.is("drop of k " + number, r.drop(section, number, 0, 2), -1);
            DUE.is("drop of x " + number, r.drop(section, 0, number, 2), -1);
            DUE.is("drop of y " + number, r.drop(section, 0, 0, number), -1);
            DUE.is("has of k " + number, r.has(section, number, 0, 2), -1);
        }
        DUE.is("put in section " + number, r.put(number, 0, 0, 2), -1);
        DUE.is("drop in section " + number, r.drop(number, 0, 0, 2), -1);
        DUE.is("has in section " + number, r.has(number, 0, 0, 2), -1);
        DUE.is("size of section " + number, r.size(number), -1);
        DUE.is("clear of section " + number, r.clear(number), -1);
        DUE.is("head(" + number + ",4)", r.head(number, 4), -1);
        DUE.is("head(4," + number + ")", r.head(4, number), -1);
        DUE.is("headAt(" + number + ")", r.headAt(number), -1);
        DUE.is("certain of " + number, r.certain(-1, number, 0), -1);
        DUE.is("candidateHas of " + number, r.candidateHas(number, 0), -1);
    }

    private static void questions() {
        DUE.says("The questions has, size, headAt, certain, rewritable, candidateHas, sound, complete and coreSize never"
                + " change anything.");
        for (int part = 0; part < State.PARTS; part++) {
            int asked = part;
            Unchanging.ask(DUE, "the questions of part " + part, r -> State.part(r, asked));
        }
        Unchanging.ask(DUE, "all questions", State::of);
    }
}
