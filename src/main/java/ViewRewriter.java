/** Answers a conjunctive query from views alone and compares a candidate rewriting with it. */
public final class ViewRewriter {
    public static final int BAD = -1;
    public static final int FULL = -2;
    public static final int NO = 0;
    public static final int YES = 1;

    public static final int QUERY = 0;
    public static final int CANDIDATE = 1;
    public static final int ROWS = 2;
    public static final int VIEWS = 3;

    public static final int QUERY_ATOMS = 4;
    public static final int CANDIDATE_ATOMS = 4;
    public static final int VIEW_ATOMS = 3;
    public static final int QUERY_VARIABLES = 5;
    public static final int CANDIDATE_VARIABLES = 5;
    public static final int VIEW_VARIABLES = 4;

    private static final int MOST_RELATIONS = 3;
    private static final int MOST_VIEWS = 3;
    private static final int MOST_VALUES = 4;
    private static final int MOST_ROWS = 8;

    // Every section gets as many slots as the largest one, so that a slot's place is plain arithmetic.
    private static final int SLOTS = MOST_ROWS;
    private static final int SECTIONS = VIEWS + MOST_VIEWS;
    private static final int ALL_SLOTS = SECTIONS * SLOTS;

    // Query and candidate have the same number of variables, so one image serves both.
    private static final int VARIABLES = 5;

    // The plain terms come first (variables or values, at most five), then two unknowns for each slot.
    private static final int PLAIN_TERMS = 5;
    private static final int FIRST_HIDDEN = 2;
    private static final int HIDDEN_VARIABLES = VIEW_VARIABLES - FIRST_HIDDEN;
    private static final int TERMS = PLAIN_TERMS + HIDDEN_VARIABLES * SLOTS;

    // A link's kind is a relation in a match and a view when the candidate is evaluated: at most three.
    private static final int KINDS = 3;
    private static final int LINK_WORDS = KINDS * TERMS;

    private static final int EVERY_VIEW = -1;
    private static final int NONE = -1;

    private final int relations;
    private final int views;
    private final int values;
    private final int rowLimit;

    private final int[] counts = new int[SECTIONS];
    private final int[] kindOf = new int[ALL_SLOTS];
    private final int[] leftOf = new int[ALL_SLOTS];
    private final int[] rightOf = new int[ALL_SLOTS];
    private int head0 = 0;
    private int head1 = 1;

    // What follows is working space: each question fills it anew and leaves nothing to the next one.
    // Links are what the atoms of an image may land on, a bit for each right term.
    private final int[] links = new int[LINK_WORDS];
    private final int[] image = new int[VARIABLES];
    private final int[] least = new int[VARIABLES];
    private final int[] greatest = new int[VARIABLES];

    public ViewRewriter(int relations, int views, int values, int rowLimit) {
        this.relations = clamp(relations, MOST_RELATIONS);
        this.views = clamp(views, MOST_VIEWS);
        this.values = clamp(values, MOST_VALUES);
        this.rowLimit = clamp(rowLimit, MOST_ROWS);
    }

    public int put(int section, int k, int x, int y) {
        if (!isTriple(section, k, x, y)) {
            return BAD;
        }
        if (place(section, k, x, y) != NONE) {
            return NO;
        }
        if (counts[section] >= limit(section)) {
            return FULL;
        }
        int free = section * SLOTS + counts[section];
        kindOf[free] = k;
        leftOf[free] = x;
        rightOf[free] = y;
        counts[section]++;
        return YES;
    }

    public int drop(int section, int k, int x, int y) {
        if (!isTriple(section, k, x, y)) {
            return BAD;
        }
        int gap = place(section, k, x, y);
        if (gap == NONE) {
            return NO;
        }
        // Sections have no order, so the last triple may fill the gap.
        counts[section]--;
        int last = section * SLOTS + counts[section];
        kindOf[gap] = kindOf[last];
        leftOf[gap] = leftOf[last];
        rightOf[gap] = rightOf[last];
        return YES;
    }

    public int has(int section, int k, int x, int y) {
        if (!isTriple(section, k, x, y)) {
            return BAD;
        }
        return place(section, k, x, y) != NONE ? YES : NO;
    }

    public int size(int section) {
        return isSection(section) ? counts[section] : BAD;
    }

    public int clear(int section) {
        if (!isSection(section)) {
            return BAD;
        }
        int removed = counts[section];
        counts[section] = 0;
        if (section == CANDIDATE) {
            head0 = 0;
            head1 = 1;
        }
        return removed;
    }

    public int head(int x, int y) {
        if (!isBelow(x, CANDIDATE_VARIABLES) || !isBelow(y, CANDIDATE_VARIABLES)) {
            return BAD;
        }
        head0 = x;
        head1 = y;
        return YES;
    }

    public int headAt(int position) {
        if (position == 0) {
            return head0;
        }
        return position == 1 ? head1 : BAD;
    }

    public int certain(int mask, int a, int b) {
        if (!isBelow(a, values) || !isBelow(b, values)) {
            return BAD;
        }
        unlinkAll();
        linkFactsOfSection(ROWS, mask);
        return queryMatches(a, b) ? YES : NO;
    }

    public int rewritable(int mask) {
        unlinkAll();
        for (int view = 0; view < views; view++) {
            if (isInMask(view, mask)) {
                linkFacts(view, 0, 0, view);
            }
        }
        return queryMatches(0, 0) ? YES : NO;
    }

    public int candidateHas(int a, int b) {
        if (!isBelow(a, values) || !isBelow(b, values)) {
            return BAD;
        }
        unlinkAll();
        linkRows();
        return candidateGives(a, b, values) ? YES : NO;
    }

    public int sound() {
        unlinkAll();
        linkFactsOfSection(CANDIDATE, EVERY_VIEW);
        return queryMatches(head0, head1) ? YES : NO;
    }

    public int complete() {
        unlinkAll();
        for (int view = 0; view < views; view++) {
            linkViewOverQuery(view);
        }
        return candidateGives(0, 1, QUERY_VARIABLES) ? YES : NO;
    }

    public int coreSize() {
        // The function that moves no variable reaches every atom, so no answer is greater than this.
        int fewest = counts[QUERY];
        image[0] = 0;
        image[1] = 1;
        for (int i = 0; i < QUERY_VARIABLES; i++) {
            image[2] = i;
            for (int j = 0; j < QUERY_VARIABLES; j++) {
                image[3] = j;
                for (int k = 0; k < QUERY_VARIABLES; k++) {
                    image[4] = k;
                    int reached = atomsReached();
                    if (reached != NONE && reached < fewest) {
                        fewest = reached;
                    }
                }
            }
        }
        return fewest;
    }

    private static int clamp(int number, int most) {
        if (number < 1) {
            return 1;
        }
        return number > most ? most : number;
    }

    private static boolean isBelow(int number, int bound) {
        return number >= 0 && number < bound;
    }

    private static boolean isInMask(int view, int mask) {
        return ((mask >> view) & 1) == 1;
    }

    private boolean isSection(int section) {
        return section >= 0 && section < VIEWS + views;
    }

    private boolean isTriple(int section, int k, int x, int y) {
        if (!isSection(section)) {
            return false;
        }
        int kinds = section == CANDIDATE || section == ROWS ? views : relations;
        int terms = termsIn(section);
        return isBelow(k, kinds) && isBelow(x, terms) && isBelow(y, terms);
    }

    private int termsIn(int section) {
        switch (section) {
            case QUERY:
                return QUERY_VARIABLES;
            case CANDIDATE:
                return CANDIDATE_VARIABLES;
            case ROWS:
                return values;
            default:
                return VIEW_VARIABLES;
        }
    }

    private int limit(int section) {
        switch (section) {
            case QUERY:
                return QUERY_ATOMS;
            case CANDIDATE:
                return CANDIDATE_ATOMS;
            case ROWS:
                return rowLimit;
            default:
                return VIEW_ATOMS;
        }
    }

    private int place(int section, int k, int x, int y) {
        int start = section * SLOTS;
        int end = start + counts[section];
        for (int slot = start; slot < end; slot++) {
            if (kindOf[slot] == k && leftOf[slot] == x && rightOf[slot] == y) {
                return slot;
            }
        }
        return NONE;
    }

    private void unlinkAll() {
        for (int word = 0; word < LINK_WORDS; word++) {
            links[word] = 0;
        }
    }

    private void link(int kind, int left, int right) {
        links[kind * TERMS + left] |= 1 << right;
    }

    private boolean isLinked(int kind, int left, int right) {
        return ((links[kind * TERMS + left] >> right) & 1) == 1;
    }

    private void linkFactsOfSection(int section, int mask) {
        int start = section * SLOTS;
        int count = counts[section];
        for (int i = 0; i < count; i++) {
            int slot = start + i;
            if (isInMask(kindOf[slot], mask)) {
                linkFacts(kindOf[slot], leftOf[slot], rightOf[slot], i);
            }
        }
    }

    // The owner's number keeps the unknowns of this triple (view,p,q) apart from those of all others.
    private void linkFacts(int view, int p, int q, int owner) {
        int start = (VIEWS + view) * SLOTS;
        int end = start + counts[VIEWS + view];
        for (int slot = start; slot < end; slot++) {
            int left = termFor(leftOf[slot], p, q, owner);
            int right = termFor(rightOf[slot], p, q, owner);
            link(kindOf[slot], left, right);
        }
    }

    private static int termFor(int variable, int p, int q, int owner) {
        if (variable == 0) {
            return p;
        }
        if (variable == 1) {
            return q;
        }
        return PLAIN_TERMS + HIDDEN_VARIABLES * owner + variable - FIRST_HIDDEN;
    }

    private void linkRows() {
        int start = ROWS * SLOTS;
        int end = start + counts[ROWS];
        for (int slot = start; slot < end; slot++) {
            link(kindOf[slot], leftOf[slot], rightOf[slot]);
        }
    }

    // c and d are chosen for each candidate atom by itself, so the pairs that a view gives over the query
    // can be found before any image of the candidate's variables is tried.
    private void linkViewOverQuery(int view) {
        for (int p = 0; p < QUERY_VARIABLES; p++) {
            for (int q = 0; q < QUERY_VARIABLES; q++) {
                if (viewGives(view, p, q)) {
                    link(view, p, q);
                }
            }
        }
    }

    private boolean viewGives(int view, int p, int q) {
        image[0] = p;
        image[1] = q;
        for (int c = 0; c < QUERY_VARIABLES; c++) {
            image[2] = c;
            for (int d = 0; d < QUERY_VARIABLES; d++) {
                image[3] = d;
                if (bodyIsInQuery(view)) {
                    return true;
                }
            }
        }
        return false;
    }

    private boolean bodyIsInQuery(int view) {
        int start = (VIEWS + view) * SLOTS;
        int end = start + counts[VIEWS + view];
        for (int slot = start; slot < end; slot++) {
            int left = image[leftOf[slot]];
            int right = image[rightOf[slot]];
            if (place(QUERY, kindOf[slot], left, right) == NONE) {
                return false;
            }
        }
        return true;
    }

    private boolean queryMatches(int p, int q) {
        // Trying terms that no fact has does no harm: only a variable without atoms can rest on one,
        // and that variable could as well go to a term that there is.
        letRoam(TERMS);
        pin(0, p);
        pin(1, q);
        return hasImage(QUERY);
    }

    private boolean candidateGives(int a, int b, int terms) {
        // Pinning one variable twice would lose the first of the two terms.
        if (head0 == head1 && a != b) {
            return false;
        }
        letRoam(terms);
        pin(head0, a);
        pin(head1, b);
        return hasImage(CANDIDATE);
    }

    private void letRoam(int terms) {
        for (int variable = 0; variable < VARIABLES; variable++) {
            least[variable] = 0;
            greatest[variable] = terms - 1;
        }
    }

    private void pin(int variable, int term) {
        least[variable] = term;
        greatest[variable] = term;
    }

    private boolean hasImage(int section) {
        for (int a = 0; a < TERMS; a++) {
            if (!canGo(section, 0, a)) {
                continue;
            }
            for (int b = 0; b < TERMS; b++) {
                if (!canGo(section, 1, b)) {
                    continue;
                }
                for (int c = 0; c < TERMS; c++) {
                    if (!canGo(section, 2, c)) {
                        continue;
                    }
                    for (int d = 0; d < TERMS; d++) {
                        if (!canGo(section, 3, d)) {
                            continue;
                        }
                        for (int e = 0; e < TERMS; e++) {
                            if (canGo(section, 4, e)) {
                                return true;
                            }
                        }
                    }
                }
            }
        }
        return false;
    }

    // Images are given in the order of the variables, so an atom can be looked at as soon as its greater
    // variable is the newest one: that ends most of the search early, and looks at no atom twice.
    private boolean canGo(int section, int newest, int term) {
        if (term < least[newest] || term > greatest[newest]) {
            return false;
        }
        image[newest] = term;
        int start = section * SLOTS;
        int end = start + counts[section];
        for (int slot = start; slot < end; slot++) {
            int left = leftOf[slot];
            int right = rightOf[slot];
            boolean isDue = left > right ? left == newest : right == newest;
            if (isDue && !isLinked(kindOf[slot], image[left], image[right])) {
                return false;
            }
        }
        return true;
    }

    private int atomsReached() {
        int seen = 0;
        int reached = 0;
        int start = QUERY * SLOTS;
        int end = start + counts[QUERY];
        for (int slot = start; slot < end; slot++) {
            int target = place(QUERY, kindOf[slot], image[leftOf[slot]], image[rightOf[slot]]);
            if (target == NONE) {
                return NONE;
            }
            int bit = 1 << (target - start);
            if ((seen & bit) == 0) {
                seen |= bit;
                reached++;
            }
        }
        return reached;
    }
}
