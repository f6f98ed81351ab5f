/** Promise 5: the size of a section. */
public final class Promise05Test {
    public static void main(String[] args) {
        Due due = new Due();
        for (int views = 1; views <= 3; views++) {
            ViewRewriter x = new ViewRewriter(3, views, 4, 8);
            for (int section = 0; section <= 2 + views; section++) {
                due.is("size of empty " + section, x.size(section), 0);
            }
            for (int section : new int[] {Integer.MIN_VALUE, -1, 3 + views, 6, 100, Integer.MAX_VALUE}) {
                due.is("size of " + section, x.size(section), -1);
            }
        }
        ViewRewriter x = new ViewRewriter(3, 3, 4, 8);
        State.fill(x, 0, 0, 0, 0, 1, 0, 0, 2, 0, 0);
        State.fill(x, 1, 0, 0, 0);
        State.fill(x, 2, 0, 0, 0, 0, 0, 1, 0, 0, 2, 1, 0, 0, 2, 0, 0);
        State.fill(x, 5, 0, 0, 0, 0, 0, 1);
        int[] sizes = {3, 1, 5, 0, 0, 2};
        for (int section = 0; section <= 5; section++) {
            due.is("size of " + section, x.size(section), sizes[section]);
            due.is("size of " + section + " again", x.size(section), sizes[section]);
        }
        x.put(0, 0, 0, 0);
        due.is("size after a put that answers NO", x.size(0), 3);
        x.put(0, 3, 0, 0);
        due.is("size after a put that answers BAD", x.size(0), 3);
        x.drop(0, 0, 0, 0);
        due.is("size after a drop", x.size(0), 2);
        x.drop(0, 0, 0, 0);
        due.is("size after a drop that answers NO", x.size(0), 2);
        x.clear(2);
        due.is("size after clear", x.size(2), 0);
        due.finish();
    }
}
