/** Promise 13: the size of the minimised query. */
public final class Promise13Test {
    private static final Due DUE = new Due();

    private static void core(int want, int... triples) {
        ViewRewriter x = new ViewRewriter(3, 3, 4, 8);
        State.fill(x, 0, triples);
        String before = State.of(x);
        DUE.is("coreSize of " + java.util.Arrays.toString(triples), x.coreSize(), want);
        DUE.is("the same again", x.coreSize(), want);
        DUE.holds("coreSize changes nothing", State.of(x).equals(before));
        State.fill(x, 3, 0, 0, 0, 0, 0, 1);
        State.fill(x, 2, 0, 0, 0, 0, 0, 1);
        State.fill(x, 1, 0, 0, 0, 0, 0, 1);
        x.head(2, 2);
        DUE.is("no other part plays", x.coreSize(), want);
    }

    public static void main(String[] args) {
        core(0);
        core(1, 0, 0, 1);
        core(1, 0, 3, 4);
        core(1, 0, 0, 2, 0, 0, 3, 0, 0, 4);
        core(1, 0, 0, 1, 0, 0, 3, 0, 0, 4);
        core(2, 0, 0, 1, 0, 0, 3, 0, 1, 4);
        core(2, 0, 0, 1, 0, 1, 0);
        core(2, 0, 0, 1, 1, 0, 1);
        core(2, 0, 2, 3, 1, 2, 3);
        core(2, 0, 2, 3, 1, 3, 4);
        core(1, 0, 0, 1, 0, 2, 1, 0, 3, 1, 0, 4, 1);
        core(1, 0, 4, 4, 0, 2, 4, 0, 3, 4);
        core(1, 0, 2, 2, 0, 2, 3, 0, 4, 2);
        core(2, 0, 2, 3, 0, 3, 4);
        core(1, 0, 2, 3, 0, 3, 4, 0, 2, 2);
        core(1, 0, 2, 2, 0, 3, 3, 0, 4, 4);
        core(3, 0, 0, 0, 0, 1, 1, 0, 0, 1, 0, 4, 4);
        core(4, 0, 0, 0, 0, 1, 1, 0, 0, 1, 0, 1, 0);
        core(4, 0, 0, 2, 0, 2, 3, 0, 3, 4, 0, 4, 1);
        core(3, 0, 2, 3, 0, 3, 4, 0, 4, 2);
        core(4, 0, 2, 3, 0, 3, 4, 0, 4, 2, 0, 2, 4);
        core(2, 0, 2, 3, 0, 3, 2, 0, 3, 4, 0, 4, 3);
        core(2, 0, 0, 2, 0, 0, 3, 1, 2, 4);
        core(2, 0, 0, 2, 1, 2, 1, 0, 0, 3);
        core(2, 0, 0, 2, 1, 2, 1, 0, 0, 3, 1, 3, 1);
        core(4, 0, 0, 2, 1, 2, 1, 0, 0, 3, 2, 3, 1);
        DUE.finish();
    }
}
