import java.util.ArrayList;
import java.util.List;

/** The four numbers of an object, each within its range, and what they make of the sections. */
final class Shape {
    final int relations;
    final int views;
    final int values;
    final int rowLimit;

    Shape(int relations, int views, int values, int rowLimit) {
        this.relations = relations;
        this.views = views;
        this.values = values;
        this.rowLimit = rowLimit;
    }

    static List<Shape> all() {
        List<Shape> shapes = new ArrayList<>();
        for (int relations = 1; relations <= 3; relations++) {
            for (int views = 1; views <= 3; views++) {
                for (int values = 1; values <= 4; values++) {
                    shapes.add(new Shape(relations, views, values, 1 + (relations + views + values) % 8));
                }
            }
        }
        return shapes;
    }

    ViewRewriter make() {
        return new ViewRewriter(relations, views, values, rowLimit);
    }

    int sections() {
        return 3 + views;
    }

    int kinds(int section) {
        return section == 1 || section == 2 ? views : relations;
    }

    int terms(int section) {
        return section < 2 ? 5 : section == 2 ? values : 4;
    }

    int limit(int section) {
        return section < 2 ? 4 : section == 2 ? rowLimit : 3;
    }

    boolean isTriple(int section, int k, int x, int y) {
        return section >= 0 && section < sections() && k >= 0 && k < kinds(section)
                && x >= 0 && x < terms(section) && y >= 0 && y < terms(section);
    }

    /** The triples that the section can hold, all of them, each as {k,x,y}. */
    List<int[]> triples(int section) {
        List<int[]> all = new ArrayList<>();
        for (int k = 0; k < kinds(section); k++) {
            for (int x = 0; x < terms(section); x++) {
                for (int y = 0; y < terms(section); y++) {
                    all.add(new int[] {k, x, y});
                }
            }
        }
        return all;
    }

    @Override
    public String toString() {
        return "new(" + relations + "," + views + "," + values + "," + rowLimit + ")";
    }
}
