/** Promise 7: the candidate's head. */
public final class Promise07Test {
    public static void main(String[] args) {
        Due due = new Due();
        ViewRewriter r = new ViewRewriter(1, 1, 1, 1);
        State.fill(r, 0, 0, 4, 4);
        State.fill(r, 1, 0, 4, 4);
        String sections = State.of(r);
        for (int x = -1; x <= 5; x++) {
            for (int y = -1; y <= 5; y++) {
                boolean good = x >= 0 && x < 5 && y >= 0 && y < 5;
                r.head(2, 3);
                due.is("head(" + x + "," + y + ")", r.head(x, y), good ? 1 : -1);
                due.is("h0 after head(" + x + "," + y + ")", r.headAt(0), good ? x : 2);
                due.is("h1 after head(" + x + "," + y + ")", r.headAt(1), good ? y : 3);
                due.is("head(" + x + "," + y + ") again", r.head(x, y), good ? 1 : -1);
            }
        }
        for (int far : new int[] {Integer.MIN_VALUE, Integer.MAX_VALUE, 100, -100}) {
            due.is("far head x", r.head(far, 0), -1);
            due.is("far head y", r.head(0, far), -1);
            due.is("far position", r.headAt(far), -1);
        }
        due.is("headAt(-1)", r.headAt(-1), -1);
        due.is("headAt(2)", r.headAt(2), -1);
        due.is("head back", r.head(0, 1), 1);
        due.holds("no section has changed", State.of(r).equals(sections));
        due.finish();
    }
}
