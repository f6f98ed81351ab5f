import java.util.Map;
import java.util.TreeMap;

/** All promises: long runs of calls, drawn by a fixed rule, are answered as the model answers them. */
public final class ModelTest {
    private static final int RUNS = 4000;
    private static final int CALLS = 60;
    private static final int SEEN_AT_LEAST = 1000;
    private static final Map<String, Integer> ANSWERS = new TreeMap<>();
    private static final Due DUE = new Due();
    private static long state = 20261115L;

    public static void main(String[] args) {
        for (int run = 0; run < RUNS; run++) {
            oneRun(run);
        }
        for (String name : new String[] {"certain", "rewritable", "candidateHas", "sound", "complete"}) {
            for (int answer = 0; answer <= 1; answer++) {
                int seen = ANSWERS.getOrDefault(name + " " + answer, 0);
                DUE.holds(name + " " + answer + " is seen often enough: " + seen, seen >= SEEN_AT_LEAST);
            }
        }
        for (int answer = 0; answer <= 4; answer++) {
            int seen = ANSWERS.getOrDefault("coreSize " + answer, 0);
            DUE.holds("coreSize " + answer + " is seen often enough: " + seen, seen >= SEEN_AT_LEAST);
        }
        DUE.finish();
    }

    private static int draw(int bound) {
        state = state * 6364136223846793005L + 1442695040888963407L;
        return (int) ((state >>> 33) % bound);
    }

    /** A number that is mostly in 0..bound-1, and now and then just outside or far away. */
    private static int around(int bound) {
        int kind = draw(40);
        if (kind > 1) {
            return draw(bound);
        }
        int[] outside = {-1, bound, bound + 1, Integer.MIN_VALUE, Integer.MAX_VALUE};
        return outside[draw(outside.length)];
    }

    private static void same(String call, int got, int want) {
        DUE.is(call, got, want);
        String name = call.substring(call.indexOf(':') + 2, call.indexOf('('));
        ANSWERS.merge(name + " " + want, 1, Integer::sum);
    }

    private static void oneRun(int run) {
        int relations = draw(5) - 1;
        int views = draw(6) - 1;
        int values = draw(7) - 1;
        int rowLimit = draw(12) - 1;
        ViewRewriter x = new ViewRewriter(relations, views, values, rowLimit);
        Model m = new Model(relations, views, values, rowLimit);
        for (int i = 0; i < CALLS; i++) {
            String at = "run " + run + " call " + i + ": ";
            change(at, x, m);
            ask(at, x, m);
        }
        seeAll("run " + run + ": ", x, m);
    }

    private static void change(String at, ViewRewriter x, Model m) {
        int kind = draw(20);
        int section = around(3 + m.views);
        int k = around(section == 1 || section == 2 ? m.views : m.relations);
        int terms = section == 2 ? m.values : section < 2 ? 5 : 4;
        int a = around(terms);
        int b = around(terms);
        String arguments = "(" + section + "," + k + "," + a + "," + b + ")";
        if (kind < 12) {
            same(at + "put" + arguments, x.put(section, k, a, b), m.put(section, k, a, b));
        } else if (kind < 17) {
            same(at + "drop" + arguments, x.drop(section, k, a, b), m.drop(section, k, a, b));
        } else if (kind < 18 && draw(3) == 0) {
            same(at + "clear(" + section + ")", x.clear(section), m.clear(section));
        } else {
            same(at + "head(" + a + "," + b + ")", x.head(a, b), m.head(a, b));
        }
    }

    private static void ask(String at, ViewRewriter x, Model m) {
        int mask = draw(3) == 0 ? draw(16) - 8 : -1;
        int a = around(m.values);
        int b = around(m.values);
        String pair = a + "," + b + ")";
        same(at + "certain(" + mask + "," + pair, x.certain(mask, a, b), m.certain(mask, a, b));
        same(at + "rewritable(" + mask + ")", x.rewritable(mask), m.rewritable(mask));
        same(at + "candidateHas(" + pair, x.candidateHas(a, b), m.candidateHas(a, b));
        same(at + "sound()", x.sound(), m.sound());
        same(at + "complete()", x.complete(), m.complete());
        same(at + "coreSize()", x.coreSize(), m.coreSize());
    }

    private static void seeAll(String at, ViewRewriter x, Model m) {
        for (int section = -1; section <= 6; section++) {
            same(at + "size(" + section + ")", x.size(section), m.size(section));
            for (int i = 0; i < 7 * 7 * 5; i++) {
                int k = i / 49 - 1;
                int a = i / 7 % 7 - 1;
                int b = i % 7 - 1;
                same(at + "has(" + section + "," + k + "," + a + "," + b + ")",
                        x.has(section, k, a, b), m.has(section, k, a, b));
            }
        }
        for (int position = -1; position <= 2; position++) {
            same(at + "headAt(" + position + ")", x.headAt(position), m.headAt(position));
        }
    }
}
