/** Promise 5: the size of a section. */
public final class Promise05Test {
    private static final Due DUE = new Due();

    public static void main(String[] args) {
        DUE.says("size(section) answers BAD if section is not 0..2+views; otherwise the number of triples in the section, 0 if"
                + " it is empty.");
        wrongSections();
        numbers();
        afterCalls();
        DUE.says("It changes nothing.");
        for (int section = -1; section <= 6; section++) {
            int asked = section;
            Unchanging.ask(DUE, "size(" + section + ")", r -> r.size(asked));
        }
        DUE.finish();
    }

    private static void wrongSections() {
        for (int views = 1; views <= 3; views++) {
            ViewRewriter r = new ViewRewriter(3, views, 4, 8);
            for (int section : Numbers.outside(3 + views)) {
                DUE.is("size(" + section + ") of " + views + " views", r.size(section), -1);
            }
            for (int section = 0; section <= 2 + views; section++) {
                DUE.is("size(" + section + ") when empty", r.size(section), 0);
            }
        }
    }

    private static void numbers() {
        for (int section = 0; section <= 5; section++) {
            for (int amount = 0; amount <= Scene.limit(section); amount++) {
                ViewRewriter r = Scene.empty();
                Scene.fill(r, section, amount);
                for (int other = 0; other <= 5; other++) {
                    DUE.is("size(" + other + ") with " + amount + " in " + section, r.size(other),
                            other == section ? amount : 0);
                }
            }
        }
    }

    private static void afterCalls() {
        ViewRewriter r = Scene.full();
        for (int section = 0; section <= 5; section++) {
            int limit = Scene.limit(section);
            int[] t = Scene.triples(section);
            r.put(section, t[0], t[1], t[2]);
            DUE.is("size after a put that answers NO", r.size(section), limit);
            r.put(section, 0, 1, 1);
            DUE.is("size after a put that answers FULL", r.size(section), limit);
            r.put(section, 3, 0, 0);
            DUE.is("size after a put that answers BAD", r.size(section), limit);
            r.drop(section, 0, 1, 1);
            DUE.is("size after a drop that answers NO", r.size(section), limit);
            r.drop(section, t[0], t[1], t[2]);
            DUE.is("size after a drop", r.size(section), limit - 1);
            r.clear(section);
            DUE.is("size after clear", r.size(section), 0);
        }
    }
}
