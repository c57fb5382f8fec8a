/**
 * Every argument with a range: the least and the greatest number that is allowed, the one below, the one
 * above, and the least and the greatest int.
 */
public final class RangesTest {
    private static final Checks CHECKS = new Checks();
    private static final int ANY = 0;
    private static final String[] OF_SIMPLICES = {"faceCell", "faceMask", "degeneracyMask", "vertex"};
    private static final int[] LEAST_N = {1, 1, 0, 0};
    private static final int[] GREATEST_N = {6, 6, 5, 6};

    public static void main(String[] args) {
        dimensionOfBeginCell();
        numberOfAFaceInTheDraft();
        dimensionOfCellCount();
        dimensionsOfSimplices();
        placesInSimplices();
        dimensionOfSimplexCount();
        dimensionOfBetti();
        dimensionOfTorsionCount();
        dimensionOfTorsion();
        placeOfHornCount();
        placeOfUnfilledCount();
        dimensionOfLoadSimplex();
        dimensionOfLoadSphere();
        for (int count : new int[] {1, 2, 31, 47, 48}) {
            numbersOfCells(count);
        }
        CHECKS.finish();
    }

    /** Each number outside the range, at one place of the arguments, is answered by the error. */
    private static void refused(Calls x, int error, int least, int greatest, int place, String name, int... a) {
        for (int outside : Edges.outside(least, greatest)) {
            int[] changed = a.clone();
            changed[place] = outside;
            x.due(error, name, changed);
        }
    }

    private static Calls simplex(int n) {
        Calls x = new Calls(CHECKS);
        x.due((1 << (n + 1)) - 1, "loadSimplex", n);
        return x;
    }

    private static void dimensionOfBeginCell() {
        CHECKS.part("beginCell, dimension 1 to 4");
        Calls x = Calls.withVertices(CHECKS, 1);
        refused(x, SimplicialSet.BAD_DIMENSION, 1, 4, 0, "beginCell", ANY);
        x.due(SimplicialSet.NO_DRAFT, "endCell");
        x.due(1, "beginCell", 1).faces(0, 0, 0, 0).due(1, "endCell").due(1, "dimension", 1);
        x.due(1, "beginCell", 4).faces(0, 0, 0, 0, 0, 0, 0, 0, 0, 0).due(2, "endCell").due(4, "dimension", 2);
    }

    private static void numberOfAFaceInTheDraft() {
        for (int m = 1; m <= 4; m++) {
            CHECKS.part("setFace, k 0 to the dimension of the draft, which is " + m);
            Calls x = Calls.withVertices(CHECKS, 1);
            x.due(1, "beginCell", m);
            refused(x, SimplicialSet.BAD_INDEX, 0, m, 0, "setFace", ANY, 0, 0);
            x.due(SimplicialSet.INCOMPLETE, "endCell");
            x.due(1, "setFace", 0, 0, 0).due(1, "setFace", m, 0, 0);
            refused(x, SimplicialSet.BAD_INDEX, 0, m, 0, "setFace", ANY, 0, 0);
            for (int k = 1; k < m; k++) {
                x.due(SimplicialSet.INCOMPLETE, "endCell").due(1, "setFace", k, 0, 0);
            }
            x.due(1, "endCell");
        }
    }

    private static void dimensionOfCellCount() {
        CHECKS.part("cellCount, dimension 0 to 4");
        Calls x = simplex(4);
        x.due(5, "cellCount", 0).due(1, "cellCount", 4);
        refused(x, SimplicialSet.BAD_DIMENSION, 0, 4, 0, "cellCount", ANY);
    }

    private static void dimensionsOfSimplices() {
        for (int at = 0; at < OF_SIMPLICES.length; at++) {
            String name = OF_SIMPLICES[at];
            int least = LEAST_N[at];
            int greatest = GREATEST_N[at];
            CHECKS.part(name + ", n " + least + " to " + greatest);
            Calls x = simplex(4);
            x.due(name.endsWith("Mask") ? 0 : 4, name, 4, least, 0, 0);
            x.due(name.endsWith("Mask") ? 0 : 4, name, 4, greatest, 0, 0);
            refused(x, SimplicialSet.BAD_DIMENSION, least, greatest, 1, name, 4, ANY, 0, 0);
            refused(x, SimplicialSet.BAD_DIMENSION, least, greatest, 1, name, 30, ANY, 15, 0);
        }
        CHECKS.part("the greatest n over the cell of dimension 4");
        // 0 1 2 3 4 4 4 and 0 1 2 3 4 4
        simplex(4).due(30, "faceCell", 30, 6, 15, 6).due(15, "faceMask", 30, 6, 15, 6).due(29, "faceCell", 30, 6, 15, 0)
                .due(7, "faceMask", 30, 6, 15, 0).due(15, "degeneracyMask", 30, 5, 15, 5)
                .due(30, "degeneracyMask", 30, 5, 15, 0).due(4, "vertex", 30, 6, 15, 6).due(0, "vertex", 30, 6, 15, 0);
    }

    private static void placesInSimplices() {
        for (int at = 0; at < OF_SIMPLICES.length; at++) {
            for (int n = LEAST_N[at]; n <= GREATEST_N[at]; n++) {
                placesIn(OF_SIMPLICES[at], n);
            }
        }
    }

    private static void placesIn(String name, int n) {
        int[] cellOfDimension = {0, 5, 15, 25, 30};
        for (int m = 0; m <= Math.min(4, n); m++) {
            CHECKS.part(name + ", place 0 to n = " + n + " over a cell of dimension " + m);
            Calls x = simplex(4);
            int mask = (1 << m) - 1;
            x.allowed(name, cellOfDimension[m], n, mask, 0);
            x.allowed(name, cellOfDimension[m], n, mask, n);
            refused(x, SimplicialSet.BAD_INDEX, 0, n, 3, name, cellOfDimension[m], n, mask, ANY);
        }
    }

    private static void dimensionOfSimplexCount() {
        CHECKS.part("simplexCount, n 0 to 6");
        Calls x = simplex(1);
        x.due(2, "simplexCount", 0).due(8, "simplexCount", 6);
        refused(x, SimplicialSet.BAD_DIMENSION, 0, 6, 0, "simplexCount", ANY);
    }

    private static void dimensionOfBetti() {
        CHECKS.part("betti, n 0 to 4");
        Calls x = Calls.oneOfEach(CHECKS);
        x.due(1, "betti", 0).due(1, "betti", 4);
        refused(x, SimplicialSet.BAD_DIMENSION, 0, 4, 0, "betti", ANY);
    }

    private static void dimensionOfTorsionCount() {
        CHECKS.part("torsionCount, n 0 to 4");
        Calls x = Calls.oneOfEach(CHECKS);
        x.due(0, "torsionCount", 0).due(0, "torsionCount", 4);
        refused(x, SimplicialSet.BAD_DIMENSION, 0, 4, 0, "torsionCount", ANY);
    }

    private static void dimensionOfTorsion() {
        CHECKS.part("torsion, n 0 to 4");
        Calls x = Calls.oneOfEach(CHECKS);
        x.due(SimplicialSet.NONE, "torsion", 0, 0).due(SimplicialSet.NONE, "torsion", 4, 0);
        refused(x, SimplicialSet.BAD_DIMENSION, 0, 4, 0, "torsion", ANY, 0);
    }

    private static void placeOfHornCount() {
        CHECKS.part("hornCount, k 0 to 2");
        Calls x = simplex(1);
        x.due(5, "hornCount", 0).due(4, "hornCount", 1).due(5, "hornCount", 2);
        refused(x, SimplicialSet.BAD_INDEX, 0, 2, 0, "hornCount", ANY);
    }

    private static void placeOfUnfilledCount() {
        CHECKS.part("unfilledCount, k 0 to 2");
        Calls x = simplex(1);
        x.due(1, "unfilledCount", 0).due(0, "unfilledCount", 1).due(1, "unfilledCount", 2);
        refused(x, SimplicialSet.BAD_INDEX, 0, 2, 0, "unfilledCount", ANY);
    }

    private static void dimensionOfLoadSimplex() {
        CHECKS.part("loadSimplex, n 0 to 4");
        Calls x = Calls.withVertices(CHECKS, 3);
        refused(x, SimplicialSet.BAD_DIMENSION, 0, 4, 0, "loadSimplex", ANY);
        x.due(3, "cellCount", 0).due(1, "loadSimplex", 0).due(1, "cellCount", 0).due(31, "loadSimplex", 4);
        refused(x, SimplicialSet.BAD_DIMENSION, 0, 4, 0, "loadSimplex", ANY);
        x.due(1, "cellCount", 4).due(31, "clear");
    }

    private static void dimensionOfLoadSphere() {
        CHECKS.part("loadSphere, n 1 to 4");
        Calls x = Calls.withVertices(CHECKS, 3);
        refused(x, SimplicialSet.BAD_DIMENSION, 1, 4, 0, "loadSphere", ANY);
        x.due(3, "cellCount", 0).due(2, "loadSphere", 1).due(1, "dimension", 1).due(2, "loadSphere", 4);
        refused(x, SimplicialSet.BAD_DIMENSION, 1, 4, 0, "loadSphere", ANY);
        x.due(4, "dimension", 1).due(2, "clear");
    }

    private static void numbersOfCells(int count) {
        CHECKS.part("numbers of cells, 0 to " + (count - 1));
        Calls x = Calls.withVertices(CHECKS, count);
        int last = count - 1;
        x.due(0, "dimension", 0).due(0, "dimension", last);
        refused(x, SimplicialSet.NO_SUCH_CELL, 0, last, 0, "dimension", ANY);
        for (String name : OF_SIMPLICES) {
            x.due(name.endsWith("Mask") ? 0 : last, name, last, 1, 0, 0);
            refused(x, SimplicialSet.NO_SUCH_CELL, 0, last, 0, name, ANY, 1, 0, 0);
        }
        x.due(0, "incidence", 0, last).due(0, "incidence", last, 0);
        refused(x, SimplicialSet.NO_SUCH_CELL, 0, last, 0, "incidence", ANY, last);
        refused(x, SimplicialSet.NO_SUCH_CELL, 0, last, 1, "incidence", last, ANY);
        x.due(1, "beginCell", 2).due(1, "setFace", 0, 0, 0).due(1, "setFace", 1, last, 0);
        refused(x, SimplicialSet.NO_SUCH_CELL, 0, last, 1, "setFace", 2, ANY, 0);
        x.due(SimplicialSet.INCOMPLETE, "endCell");
    }
}
