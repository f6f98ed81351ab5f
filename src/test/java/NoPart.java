import java.util.function.Function;

/** Asks a question again and again while something changes that plays no part in it: the answers must stay. */
final class NoPart {
    private static final Shape SHAPE = new Shape(3, 3, 4, 8);

    private NoPart() {
    }

    /** Goes through all triples of the section, each alone, and then with up to as many others as it can hold. */
    static void ofSection(Due due, int section, Function<ViewRewriter, String> question) {
        for (int scene = 0; scene < Scene.all().length; scene++) {
            ViewRewriter r = Scene.all()[scene];
            String before = question.apply(r);
            String where = "scene " + scene + " with section " + section;
            r.clear(section);
            due.holds(where + " empty", question.apply(r).equals(before));
            for (int most : new int[] {1, SHAPE.limit(section)}) {
                for (int[] t : SHAPE.triples(section)) {
                    if (r.size(section) >= most) {
                        r.clear(section);
                    }
                    State.fill(r, section, t);
                    due.holds(where + " holding " + r.size(section) + " up to " + t[0] + "," + t[1] + "," + t[2],
                            question.apply(r).equals(before));
                }
                r.clear(section);
            }
        }
    }

    static void ofHead(Due due, Function<ViewRewriter, String> question) {
        for (int scene = 0; scene < Scene.all().length; scene++) {
            ViewRewriter r = Scene.all()[scene];
            String before = question.apply(r);
            for (int code = 0; code < 25; code++) {
                r.head(code / 5, code % 5);
                due.holds("scene " + scene + " with head " + code / 5 + "," + code % 5, question.apply(r).equals(before));
            }
        }
    }
}
