import java.util.List;

/** "Terms used": ranges, sections and heads. */
public final class SectionsTest {
    private static final Due DUE = new Due();

    public static void main(String[] args) {
        clampedNumbers();
        ranges();
        table();
        exactSections();
        sets();
        independent();
        rowsAndCandidateStay();
        asTheyAreNow();
        queryHead();
        viewHead();
        candidateHead();
        unusedVariables();
        DUE.finish();
    }

    private static void clampedNumbers() {
        DUE.says("In this document relations, views, values and rowLimit always mean the numbers after the clamping of"
                + " Promise 1.");
        ViewRewriter large = new ViewRewriter(99, 99, 99, 99);
        ViewRewriter small = new ViewRewriter(-99, -99, -99, -99);
        String largest = State.of(new ViewRewriter(3, 3, 4, 8));
        String smallest = State.of(new ViewRewriter(1, 1, 1, 1));
        DUE.unchanged("new(99,99,99,99), beside new(3,3,4,8)", large, largest);
        DUE.unchanged("new(-99,-99,-99,-99), beside new(1,1,1,1)", small, smallest);
        for (int i = 0; i < 16; i++) {
            DUE.is("row " + i + " of new(99,99,99,99)", large.put(2, 0, i / 4, i % 4), i < 8 ? 1 : -2);
        }
        ViewRewriter oneRow = new ViewRewriter(1, 1, 4, -99);
        DUE.is("the first row of a limit of -99", oneRow.put(2, 0, 0, 0), 1);
        DUE.is("the second row of a limit of -99", oneRow.put(2, 0, 0, 1), -2);
    }

    private static void ranges() {
        DUE.says("A relation is 0..relations-1, a view is 0..views-1, a value is 0..values-1.");
        for (Shape shape : Shape.all()) {
            ViewRewriter r = shape.make();
            for (int number : Numbers.wide()) {
                boolean relation = number >= 0 && number < shape.relations;
                boolean view = number >= 0 && number < shape.views;
                boolean value = number >= 0 && number < shape.values;
                String of = number + " of " + shape;
                DUE.is("relation in the query " + of, r.has(0, number, 0, 0), relation ? 0 : -1);
                DUE.is("relation in a body " + of, r.has(3, number, 0, 0), relation ? 0 : -1);
                DUE.is("view in the candidate " + of, r.has(1, number, 0, 0), view ? 0 : -1);
                DUE.is("view in the rows " + of, r.has(2, number, 0, 0), view ? 0 : -1);
                DUE.is("value x " + of, r.has(2, 0, number, 0), value ? 0 : -1);
                DUE.is("value y " + of, r.has(2, 0, 0, number), value ? 0 : -1);
                DUE.is("value a of certain " + of, r.certain(1, number, 0), value ? 1 : -1);
                DUE.is("value b of certain " + of, r.certain(1, 0, number), value ? 1 : -1);
                DUE.is("value a of candidateHas " + of, r.candidateHas(number, 0), value ? 1 : -1);
                DUE.is("value b of candidateHas " + of, r.candidateHas(0, number), value ? 1 : -1);
            }
        }
    }

    private static void table() {
        DUE.says("0 (QUERY) | the atom k(x,y) of the query over the relations | a relation | query variables 0..4 |"
                + " 4 triples");
        rowOfTable(0, 0);
        DUE.says("1 (CANDIDATE) | the atom k(x,y) of a candidate rewriting over the views | a view |"
                + " candidate variables 0..4 | 4 triples");
        rowOfTable(1, 1);
        DUE.says("2 (ROWS) | view k holds the row (x,y); the loaded rows of all views together | a view | values |"
                + " rowLimit triples");
        rowOfTable(2, 2);
        DUE.says("3+v (VIEWS+v), 0 <= v < views | the atom k(x,y) of the body of view v | a relation |"
                + " view variables 0..3 | 3 triples");
        rowOfTable(3, 5);
    }

    private static void rowOfTable(int first, int last) {
        for (Shape shape : Shape.all()) {
            for (int section = first; section <= last && section < shape.sections(); section++) {
                takesTheTriplesOf(shape, section);
                takesNoMoreThan(shape, section);
            }
        }
    }

    private static void takesTheTriplesOf(Shape shape, int section) {
        ViewRewriter r = shape.make();
        for (int k = -1; k <= 3; k++) {
            for (int x = -1; x <= 5; x++) {
                for (int y = -1; y <= 5; y++) {
                    int want = shape.isTriple(section, k, x, y) ? 1 : -1;
                    DUE.is(shape + " put(" + section + "," + k + "," + x + "," + y + ")", r.put(section, k, x, y), want);
                    r.clear(section);
                }
            }
        }
    }

    private static void takesNoMoreThan(Shape shape, int section) {
        ViewRewriter r = shape.make();
        int there = 0;
        for (int[] t : shape.triples(section)) {
            boolean room = there < shape.limit(section);
            DUE.is(shape + " triple " + there + " of section " + section, r.put(section, t[0], t[1], t[2]), room ? 1 : -2);
            there += room ? 1 : 0;
        }
    }

    private static void exactSections() {
        DUE.says("So the sections are exactly 0..2+views.");
        for (int views = 1; views <= 3; views++) {
            ViewRewriter r = new ViewRewriter(1, views, 1, 1);
            for (int section : Numbers.wide()) {
                boolean isOne = section >= 0 && section <= 2 + views;
                String of = "section " + section + " of " + views + " views";
                DUE.is("size, " + of, r.size(section), isOne ? 0 : -1);
                DUE.is("has, " + of, r.has(section, 0, 0, 0), isOne ? 0 : -1);
                DUE.is("drop, " + of, r.drop(section, 0, 0, 0), isOne ? 0 : -1);
                DUE.is("put, " + of, r.put(section, 0, 0, 0), isOne ? 1 : -1);
                DUE.is("clear, " + of, r.clear(section), isOne ? 1 : -1);
            }
        }
    }

    private static void sets() {
        DUE.says("Being sets, sections have no order and hold no triple twice.");
        String due = State.of(Scene.full());
        for (int section = 0; section <= 5; section++) {
            int[] triples = Scene.triples(section);
            int amount = triples.length / 3;
            for (int first = 0; first < amount; first++) {
                ViewRewriter r = Scene.full();
                r.clear(section);
                r.head(3, 2);
                for (int i = amount - 1; i >= 0; i--) {
                    int at = 3 * ((first + i) % amount);
                    State.fill(r, section, triples[at], triples[at + 1], triples[at + 2]);
                    DUE.is("put again", r.put(section, triples[at], triples[at + 1], triples[at + 2]), 0);
                }
                DUE.is("size of section " + section, r.size(section), amount);
                DUE.unchanged("another order in section " + section, r, due);
                DUE.is("drop of one put twice", r.drop(section, triples[0], triples[1], triples[2]), 1);
                DUE.is("it is gone", r.has(section, triples[0], triples[1], triples[2]), 0);
                DUE.is("drop of it again", r.drop(section, triples[0], triples[1], triples[2]), 0);
            }
        }
    }

    private static void independent() {
        DUE.says("They are independent: changing one never changes another.");
        for (int section = 0; section <= 5; section++) {
            for (int amount = 0; amount < Scene.limit(section); amount++) {
                ViewRewriter r = Scene.full();
                for (int other = 0; other <= 5; other++) {
                    DUE.is("size of section " + other + " when all are filled", r.size(other), Scene.limit(other));
                }
                String[] before = sectionsOf(r);
                r.clear(section);
                othersStay("clear", r, section, before);
                Scene.fill(r, section, amount + 1);
                othersStay("put", r, section, before);
                int[] t = Scene.triples(section);
                DUE.is("drop", r.drop(section, t[3 * amount], t[3 * amount + 1], t[3 * amount + 2]), 1);
                othersStay("drop", r, section, before);
            }
        }
    }

    private static String[] sectionsOf(ViewRewriter r) {
        String[] seen = new String[6];
        for (int section = 0; section <= 5; section++) {
            seen[section] = State.section(r, section);
        }
        return seen;
    }

    private static void othersStay(String call, ViewRewriter r, int changed, String[] before) {
        String[] now = sectionsOf(r);
        for (int other = 0; other <= 5; other++) {
            if (other != changed) {
                DUE.holds(call + " in section " + changed + " leaves section " + other, now[other].equals(before[other]));
            }
        }
    }

    private static void rowsAndCandidateStay() {
        DUE.says("Rows and candidate atoms of a view whose body is empty or is changed later stay as they are.");
        for (int view = 0; view < 3; view++) {
            ViewRewriter r = new ViewRewriter(3, 3, 4, 8);
            DUE.is("a row of a view with an empty body", r.put(2, view, 1, 2), 1);
            DUE.is("an atom of a view with an empty body", r.put(1, view, 0, 1), 1);
            String rows = State.section(r, 2);
            String candidate = State.section(r, 1);
            State.fill(r, 3 + view, 0, 0, 1, 1, 2, 3);
            r.clear(3 + view);
            State.fill(r, 3 + view, 2, 1, 1, 0, 0, 1);
            r.drop(3 + view, 2, 1, 1);
            r.drop(3 + view, 0, 0, 1);
            DUE.is("the body is empty again", r.size(3 + view), 0);
            DUE.holds("the row of view " + view + " stays", State.section(r, 2).equals(rows));
            DUE.holds("the atom of view " + view + " stays", State.section(r, 1).equals(candidate));
            DUE.is("the candidate gives the row", r.candidateHas(1, 2), 1);
            State.fill(r, 3 + view, 0, 0, 1);
            State.fill(r, 0, 0, 0, 1);
            DUE.is("the row serves the new body", r.certain(-1, 1, 2), 1);
            DUE.is("the atom serves the new body", r.sound(), 1);
        }
    }

    private static void asTheyAreNow() {
        DUE.says("Every question is answered from the sections as they are at the time of the call.");
        without("the query's atom", 0, 0, 1, 1, 1, 1, 1, 0, 0);
        without("the candidate's atom", 1, 0, 1, 1, 1, 1, 0, 1, 1);
        without("the row", 2, 1, 2, 0, 1, 0, 1, 1, 1);
        without("the body's atom", 3, 0, 1, 0, 0, 1, 0, 1, 1);
        ViewRewriter r = joined();
        answers(r, "all there", 1, 1, 1, 1, 1, 1);
        r.head(1, 0);
        answers(r, "the head turned", 1, 1, 0, 0, 0, 1);
        r.head(0, 1);
        answers(r, "the head turned back", 1, 1, 1, 1, 1, 1);
    }

    /** Each question by itself: with all there, then without (0,x,y) in the section, then with all there again. */
    private static void without(String what, int section, int x, int y, int... due) {
        for (int question = 0; question < due.length; question++) {
            ViewRewriter r = joined();
            String name = "question " + question;
            DUE.is(name + ", all there", answer(r, question), 1);
            r.drop(section, 0, x, y);
            DUE.is(name + ", without " + what, answer(r, question), due[question]);
            State.fill(r, section, 0, x, y);
            DUE.is(name + ", again with " + what, answer(r, question), 1);
            r.clear(section);
            DUE.is(name + ", cleared of " + what, answer(r, question), due[question]);
        }
    }

    /** One atom in each section, so that every question is answered YES and coreSize 1. */
    private static ViewRewriter joined() {
        ViewRewriter r = new ViewRewriter(1, 1, 4, 8);
        State.fill(r, 0, 0, 0, 1);
        State.fill(r, 1, 0, 0, 1);
        State.fill(r, 2, 0, 1, 2);
        State.fill(r, 3, 0, 0, 1);
        return r;
    }

    /** certain, rewritable, candidateHas, sound, complete and coreSize, by number. */
    private static int answer(ViewRewriter r, int question) {
        switch (question) {
            case 0:
                return r.certain(1, 1, 2);
            case 1:
                return r.rewritable(1);
            case 2:
                return r.candidateHas(1, 2);
            case 3:
                return r.sound();
            case 4:
                return r.complete();
            default:
                return r.coreSize();
        }
    }

    private static void answers(ViewRewriter r, String when, int... due) {
        for (int question = 0; question < due.length; question++) {
            DUE.is("question " + question + ", " + when, answer(r, question), due[question]);
        }
    }

    private static void queryHead() {
        DUE.says("The head of the query is always (0,1), its variables 0 and 1.");
        ViewRewriter r = joined();
        for (int h0 = 0; h0 < 5; h0++) {
            for (int h1 = 0; h1 < 5; h1++) {
                String when = " with the candidate's head " + h0 + "," + h1;
                r.head(h0, h1);
                DUE.is("certain" + when, r.certain(1, 1, 2), 1);
                DUE.is("certain turned" + when, r.certain(1, 2, 1), 0);
                DUE.is("sound" + when, r.sound(), h0 == 0 && h1 == 1 ? 1 : 0);
            }
        }
        r.clear(1);
        State.fill(r, 1, 0, 2, 3);
        for (int h0 = 0; h0 < 5; h0++) {
            for (int h1 = 0; h1 < 5; h1++) {
                r.head(h0, h1);
                boolean good = h0 != h1 && h0 != 3 && h1 != 2;
                DUE.is("complete with the candidate's head " + h0 + "," + h1, r.complete(), good ? 1 : 0);
            }
        }
    }

    private static void viewHead() {
        DUE.says("The head of a view is always (0,1), its variables 0 and 1; view variables 2 and 3 are hidden.");
        int[] row = {2, 3};
        for (int x = 0; x < 4; x++) {
            for (int y = 0; y < 4; y++) {
                ViewRewriter r = new ViewRewriter(1, 1, 4, 8);
                State.fill(r, 0, 0, 0, 1);
                State.fill(r, 2, 0, row[0], row[1]);
                State.fill(r, 3, 0, x, y);
                r.head(1, 0);
                for (int i = 0; i < 16; i++) {
                    boolean seen = x < 2 && y < 2 && row[x] == i / 4 && row[y] == i % 4;
                    DUE.is("body (" + x + "," + y + "), certain " + i / 4 + "," + i % 4,
                            r.certain(1, i / 4, i % 4), seen ? 1 : 0);
                }
            }
        }
    }

    private static void candidateHead() {
        DUE.says("The head of the candidate is a pair (h0,h1) of candidate variables, (0,1) at first; h0 = h1 is allowed.");
        for (Shape shape : Shape.all()) {
            ViewRewriter r = shape.make();
            DUE.is("h0 at first", r.headAt(0), 0);
            DUE.is("h1 at first", r.headAt(1), 1);
            for (int h0 = 0; h0 < 5; h0++) {
                for (int h1 = 0; h1 < 5; h1++) {
                    DUE.is("head " + h0 + "," + h1, r.head(h0, h1), 1);
                    DUE.is("h0 of " + h0 + "," + h1, r.headAt(0), h0);
                    DUE.is("h1 of " + h0 + "," + h1, r.headAt(1), h1);
                }
            }
        }
    }

    private static void unusedVariables() {
        DUE.says("No variable, in a head or not, needs to occur in any atom.");
        answers(new ViewRewriter(1, 1, 4, 8), "no atom at all", 1, 1, 1, 1, 1, 0);
        ViewRewriter r = new ViewRewriter(1, 1, 4, 8);
        State.fill(r, 0, 0, 3, 4);
        State.fill(r, 1, 0, 2, 4);
        State.fill(r, 2, 0, 3, 0);
        State.fill(r, 3, 0, 2, 3);
        for (List<Integer> head : List.of(List.of(0, 1), List.of(1, 0), List.of(3, 0), List.of(2, 3), List.of(1, 4))) {
            r.head(head.get(0), head.get(1));
            DUE.is("certain, no head in an atom", r.certain(1, 1, 2), 1);
            DUE.is("rewritable, no head in an atom", r.rewritable(1), 1);
            DUE.is("sound, head " + head, r.sound(), 1);
            DUE.is("complete, head " + head, r.complete(), 1);
            DUE.is("coreSize, no head in an atom", r.coreSize(), 1);
        }
        r.head(0, 1);
        DUE.is("candidateHas, no head in an atom", r.candidateHas(1, 2), 1);
        r.head(2, 1);
        DUE.is("candidateHas, half of the head in an atom", r.candidateHas(3, 2), 1);
        DUE.is("candidateHas, half of the head in an atom", r.candidateHas(2, 2), 0);
    }
}
