/** Promise 4: has tells bad triples, absent ones and present ones apart, and changes nothing. */
public final class Promise04Test {
    private static final Due DUE = new Due();

    public static void main(String[] args) {
        for (int relations = 1; relations <= 3; relations++) {
            for (int views = 1; views <= 3; views++) {
                for (int values = 1; values <= 4; values++) {
                    ranges(new ViewRewriter(relations, views, values, 8), relations, views, values);
                }
            }
        }
        ViewRewriter x = new ViewRewriter(3, 3, 4, 8);
        State.fill(x, 2, 1, 2, 3);
        DUE.is("has", x.has(2, 1, 2, 3), 1);
        DUE.is("has of another view", x.has(2, 0, 2, 3), 0);
        DUE.is("has of another x", x.has(2, 1, 1, 3), 0);
        DUE.is("has of another y", x.has(2, 1, 2, 2), 0);
        DUE.is("has turned", x.has(2, 1, 3, 2), 0);
        DUE.is("has in another section", x.has(0, 1, 2, 3), 0);
        DUE.is("far section", x.has(Integer.MAX_VALUE, 0, 0, 0), -1);
        DUE.is("far section", x.has(Integer.MIN_VALUE, 0, 0, 0), -1);
        DUE.is("far kind", x.has(0, Integer.MIN_VALUE, 0, 0), -1);
        DUE.is("far x", x.has(0, 0, Integer.MAX_VALUE, 0), -1);
        DUE.is("far y", x.has(0, 0, 0, Integer.MIN_VALUE), -1);
        String once = State.of(x);
        DUE.holds("asking changes nothing", State.of(x).equals(once));
        DUE.finish();
    }

    private static void ranges(ViewRewriter r, int relations, int views, int values) {
        for (int section = -2; section <= 7; section++) {
            boolean overViews = section == 1 || section == 2;
            int kinds = overViews ? views : relations;
            int terms = section < 2 ? 5 : section == 2 ? values : 4;
            for (int k = -2; k <= 4; k++) {
                for (int x = -2; x <= 6; x++) {
                    for (int y = -2; y <= 6; y++) {
                        boolean good = section >= 0 && section <= 2 + views && k >= 0 && k < kinds
                                && x >= 0 && x < terms && y >= 0 && y < terms;
                        DUE.is("has(" + section + "," + k + "," + x + "," + y + ") of " + relations + "," + views
                                + "," + values, r.has(section, k, x, y), good ? 0 : -1);
                    }
                }
            }
        }
    }
}
