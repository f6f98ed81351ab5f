import java.util.ArrayList;
import java.util.HashMap;
import java.util.HashSet;
import java.util.List;
import java.util.Map;
import java.util.Set;

/** The document's words once more, over sets and with recursion, to hold the program against. */
final class Model {
    final int relations;
    final int views;
    final int values;
    final int rowLimit;
    private final List<Set<List<Integer>>> sections = new ArrayList<>();
    private int h0 = 0;
    private int h1 = 1;

    Model(int relations, int views, int values, int rowLimit) {
        this.relations = Math.max(1, Math.min(3, relations));
        this.views = Math.max(1, Math.min(3, views));
        this.values = Math.max(1, Math.min(4, values));
        this.rowLimit = Math.max(1, Math.min(8, rowLimit));
        for (int section = 0; section < 3 + this.views; section++) {
            sections.add(new HashSet<>());
        }
    }

    private boolean bad(int section, int k, int x, int y) {
        if (section < 0 || section >= sections.size()) {
            return true;
        }
        int kinds = section == 1 || section == 2 ? views : relations;
        int terms = section == 2 ? values : section < 2 ? 5 : 4;
        return k < 0 || k >= kinds || x < 0 || x >= terms || y < 0 || y >= terms;
    }

    int put(int section, int k, int x, int y) {
        if (bad(section, k, x, y)) {
            return -1;
        }
        Set<List<Integer>> set = sections.get(section);
        if (set.contains(List.of(k, x, y))) {
            return 0;
        }
        int limit = section == 2 ? rowLimit : section < 2 ? 4 : 3;
        if (set.size() == limit) {
            return -2;
        }
        set.add(List.of(k, x, y));
        return 1;
    }

    int drop(int section, int k, int x, int y) {
        if (bad(section, k, x, y)) {
            return -1;
        }
        return sections.get(section).remove(List.of(k, x, y)) ? 1 : 0;
    }

    int has(int section, int k, int x, int y) {
        if (bad(section, k, x, y)) {
            return -1;
        }
        return sections.get(section).contains(List.of(k, x, y)) ? 1 : 0;
    }

    int size(int section) {
        return section < 0 || section >= sections.size() ? -1 : sections.get(section).size();
    }

    int clear(int section) {
        int removed = size(section);
        if (removed >= 0) {
            sections.get(section).clear();
        }
        if (section == 1) {
            h0 = 0;
            h1 = 1;
        }
        return removed;
    }

    int head(int x, int y) {
        if (x < 0 || x > 4 || y < 0 || y > 4) {
            return -1;
        }
        h0 = x;
        h1 = y;
        return 1;
    }

    int headAt(int position) {
        return position == 0 ? h0 : position == 1 ? h1 : -1;
    }

    private boolean noValues(int a, int b) {
        return a < 0 || a >= values || b < 0 || b >= values;
    }

    private boolean inMask(int view, int mask) {
        return (mask & (1 << view)) != 0;
    }

    private Set<List<Integer>> factsOf(Set<List<Integer>> triples) {
        Set<List<Integer>> facts = new HashSet<>();
        int fresh = 1000;
        for (List<Integer> triple : triples) {
            int[] s = {triple.get(1), triple.get(2), fresh++, fresh++};
            for (List<Integer> atom : sections.get(3 + triple.get(0))) {
                facts.add(List.of(atom.get(0), s[atom.get(1)], s[atom.get(2)]));
            }
        }
        return facts;
    }

    private static boolean bind(Map<Integer, Integer> map, int from, int to) {
        Integer old = map.putIfAbsent(from, to);
        return old == null || old == to;
    }

    /** Whether the atoms from number i on can be sent to facts, one after the other, keeping to the map. */
    private static boolean extend(List<List<Integer>> atoms, int i, Map<Integer, Integer> map, Set<List<Integer>> facts) {
        if (i == atoms.size()) {
            return true;
        }
        List<Integer> atom = atoms.get(i);
        for (List<Integer> fact : facts) {
            Map<Integer, Integer> next = new HashMap<>(map);
            if (fact.get(0).equals(atom.get(0)) && bind(next, atom.get(1), fact.get(1))
                    && bind(next, atom.get(2), fact.get(2)) && extend(atoms, i + 1, next, facts)) {
                return true;
            }
        }
        return false;
    }

    private int matches(Set<List<Integer>> triples, int p, int q) {
        Map<Integer, Integer> map = new HashMap<>(Map.of(0, p, 1, q));
        return extend(new ArrayList<>(sections.get(0)), 0, map, factsOf(triples)) ? 1 : 0;
    }

    int certain(int mask, int a, int b) {
        if (noValues(a, b)) {
            return -1;
        }
        Set<List<Integer>> triples = new HashSet<>(sections.get(2));
        triples.removeIf(row -> !inMask(row.get(0), mask));
        return matches(triples, a, b);
    }

    int rewritable(int mask) {
        Set<List<Integer>> triples = new HashSet<>();
        for (int view = 0; view < views; view++) {
            if (inMask(view, mask)) {
                triples.add(List.of(view, 0, 0));
            }
        }
        return matches(triples, 0, 0);
    }

    int sound() {
        return matches(sections.get(1), h0, h1);
    }

    int candidateHas(int a, int b) {
        if (noValues(a, b)) {
            return -1;
        }
        Map<Integer, Integer> map = new HashMap<>();
        if (!bind(map, h0, a) || !bind(map, h1, b)) {
            return 0;
        }
        return extend(new ArrayList<>(sections.get(1)), 0, map, sections.get(2)) ? 1 : 0;
    }

    /** The candidate is spelled out: each of its atoms becomes the body of its view with hidden variables of its own. */
    int complete() {
        Map<Integer, Integer> map = new HashMap<>();
        if (!bind(map, h0, 0) || !bind(map, h1, 1)) {
            return 0;
        }
        return extend(new ArrayList<>(factsOf(sections.get(1))), 0, map, sections.get(0)) ? 1 : 0;
    }

    int coreSize() {
        Set<List<Integer>> query = sections.get(0);
        int fewest = query.size();
        for (int code = 0; code < 125; code++) {
            int[] m = {0, 1, code % 5, code / 5 % 5, code / 25};
            Set<List<Integer>> reached = new HashSet<>();
            for (List<Integer> atom : query) {
                reached.add(List.of(atom.get(0), m[atom.get(1)], m[atom.get(2)]));
            }
            if (query.containsAll(reached)) {
                fewest = Math.min(fewest, reached.size());
            }
        }
        return fewest;
    }
}
