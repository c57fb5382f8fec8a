/** Promises 20 and 21: hornCount and unfilledCount. */
public final class HornsTest {
    private static final Checks CHECKS = new Checks();

    private static void due(String call, long got, long want) {
        CHECKS.due(call, got, want);
    }

    private static void dueAt(SimplicialSet x, int k, int horns, int unfilled) {
        due("hornCount(" + k + ")", x.hornCount(k), horns);
        due("unfilledCount(" + k + ")", x.unfilledCount(k), unfilled);
    }

    public static void main(String[] args) {
        noCells();
        edge();
        circleAndSpheres();
        fullCircle();
        fork();
        oneAfterAnother();
        simplices();
        wrongPlaces();
        CHECKS.finish();
    }

    private static int cell(SimplicialSet x, int... facesAndMasks) {
        x.beginCell(facesAndMasks.length / 2 - 1);
        for (int k = 0; 2 * k < facesAndMasks.length; k++) {
            x.setFace(k, facesAndMasks[2 * k], facesAndMasks[2 * k + 1]);
        }
        return x.endCell();
    }

    private static void noCells() {
        CHECKS.part("no cells");
        SimplicialSet x = new SimplicialSet();
        for (int k = 0; k <= 2; k++) {
            dueAt(x, k, 0, 0);
        }
        x.addVertex();
        x.addVertex();
        CHECKS.part("two vertices");
        for (int k = 0; k <= 2; k++) {
            dueAt(x, k, 2, 0);
        }
    }

    private static void edge() {
        CHECKS.part("an edge");
        SimplicialSet x = new SimplicialSet();
        x.loadSimplex(1);
        dueAt(x, 0, 5, 1);
        dueAt(x, 1, 4, 0);
        dueAt(x, 2, 5, 1);
    }

    private static void circleAndSpheres() {
        SimplicialSet x = new SimplicialSet();
        for (int n = 1; n <= 4; n++) {
            CHECKS.part("a sphere of dimension " + n);
            x.loadSphere(n);
            for (int k = 0; k <= 2; k++) {
                dueAt(x, k, n == 1 ? 4 : 1, n == 1 ? 1 : 0);
            }
        }
    }

    /** Two triangles on a loop, all faces the loop and all but the middle one, fill every horn. */
    private static void fullCircle() {
        CHECKS.part("a loop and a triangle on it");
        SimplicialSet x = new SimplicialSet();
        x.addVertex();
        cell(x, 0, 0, 0, 0);
        due("endCell()", cell(x, 1, 1, 1, 1, 1, 1), 2);
        dueAt(x, 0, 4, 1);
        dueAt(x, 1, 4, 0);
        dueAt(x, 2, 4, 1);
        CHECKS.part("a loop and the same triangle twice");
        due("endCell()", cell(x, 1, 1, 1, 1, 1, 1), 3);
        dueAt(x, 0, 4, 1);
        dueAt(x, 1, 4, 0);
        dueAt(x, 2, 4, 1);
        CHECKS.part("a loop and two triangles on it");
        due("endCell()", cell(x, 1, 1, 0, 0, 1, 1), 4);
        dueAt(x, 0, 4, 0);
        dueAt(x, 1, 4, 0);
        dueAt(x, 2, 4, 0);
    }

    /** The edges 3, from 0 to 1, and 4, from 0 to 2, and then a triangle on a third edge 5, from 1 to 2. */
    private static void fork() {
        CHECKS.part("a fork");
        SimplicialSet x = new SimplicialSet();
        x.loadSimplex(0);
        x.addVertex();
        x.addVertex();
        cell(x, 1, 0, 0, 0);
        cell(x, 2, 0, 0, 0);
        dueAt(x, 0, 11, 4);
        dueAt(x, 1, 7, 0);
        dueAt(x, 2, 9, 2);
        CHECKS.part("a fork and an edge");
        cell(x, 2, 0, 1, 0);
        dueAt(x, 0, 14, 5);
        dueAt(x, 1, 10, 1);
        dueAt(x, 2, 14, 5);
        CHECKS.part("a triangle");
        due("endCell()", cell(x, 5, 1, 4, 1, 3, 1), 6);
        dueAt(x, 0, 14, 4);
        dueAt(x, 1, 10, 0);
        dueAt(x, 2, 14, 4);
    }

    /** What filled a horn before, in another set or at another k, does not fill one now. */
    private static void oneAfterAnother() {
        CHECKS.part("a triangle and then its edges alone");
        SimplicialSet x = new SimplicialSet();
        x.loadSimplex(2);
        due("unfilledCount(0)", x.unfilledCount(0), 4);
        due("unfilledCount(1)", x.unfilledCount(1), 0);
        due("unfilledCount(2)", x.unfilledCount(2), 4);
        x.loadSimplex(0);
        x.addVertex();
        x.addVertex();
        cell(x, 1, 0, 0, 0);
        cell(x, 2, 0, 0, 0);
        due("endCell()", cell(x, 2, 0, 1, 0), 5);
        due("unfilledCount(2)", x.unfilledCount(2), 5);
        due("unfilledCount(1)", x.unfilledCount(1), 1);
        due("unfilledCount(0)", x.unfilledCount(0), 5);
        due("unfilledCount(0) again", x.unfilledCount(0), 5);
    }

    private static void simplices() {
        for (int n = 0; n <= 4; n++) {
            CHECKS.part("loadSimplex(" + n + ")");
            Twins twins = new Twins(CHECKS);
            twins.loadSimplex(n);
            twins.lookAround();
            due("unfilledCount(1)", twins.set.unfilledCount(1), 0);
        }
    }

    private static void wrongPlaces() {
        CHECKS.part("wrong places");
        SimplicialSet x = new SimplicialSet();
        x.loadSimplex(2);
        for (int k : new int[] {Integer.MIN_VALUE, -1, 3, 4, Integer.MAX_VALUE}) {
            dueAt(x, k, SimplicialSet.BAD_INDEX, SimplicialSet.BAD_INDEX);
        }
    }
}
