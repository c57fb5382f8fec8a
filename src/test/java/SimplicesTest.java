/** Promises 9 to 13: faceCell, faceMask, degeneracyMask, vertex, simplexCount. */
public final class SimplicesTest {
    private static final int[] FAR = {Integer.MIN_VALUE, -1000, 1000, Integer.MAX_VALUE};
    private static final Checks CHECKS = new Checks();

    private static void due(String call, long got, long want) {
        CHECKS.due(call, got, want);
    }

    public static void main(String[] args) {
        facesInATetrahedron();
        facesOverDegenerateFaces();
        degeneracies();
        vertices();
        errorsInOrder();
        everySimplexOfASimplex();
        counts();
        CHECKS.finish();
    }

    /** One of the four calls that take a simplex and a place. */
    private static int call(SimplicialSet x, int which, int cell, int n, int mask, int i) {
        return switch (which) {
            case 0 -> x.faceCell(cell, n, mask, i);
            case 1 -> x.faceMask(cell, n, mask, i);
            case 2 -> x.degeneracyMask(cell, n, mask, i);
            default -> x.vertex(cell, n, mask, i);
        };
    }

    private static void facesInATetrahedron() {
        CHECKS.part("promises 9 and 10");
        SimplicialSet x = new SimplicialSet();
        x.loadSimplex(3);
        // 0 0 1 2 2 3 over the tetrahedron 0 1 2 3.
        int[] cells = {14, 14, 12, 14, 14, 10};
        int[] masks = {11, 11, 10, 14, 14, 6};
        for (int i = 0; i <= 5; i++) {
            due("faceCell(14, 5, 22, " + i + ")", x.faceCell(14, 5, 22, i), cells[i]);
            due("faceMask(14, 5, 22, " + i + ")", x.faceMask(14, 5, 22, i), masks[i]);
        }
        due("faceCell(4, 1, 1, 0)", x.faceCell(4, 1, 1, 0), 1);
        due("faceCell(4, 1, 1, 1)", x.faceCell(4, 1, 1, 1), 0);
        due("faceMask(4, 1, 1, 1)", x.faceMask(4, 1, 1, 1), 0);
        due("faceCell(2, 1, 0, 0)", x.faceCell(2, 1, 0, 0), 2);
        due("faceCell(2, 6, 0, 6)", x.faceCell(2, 6, 0, 6), 2);
        due("faceMask(2, 6, 0, 3)", x.faceMask(2, 6, 0, 3), 0);
        due("faceMask(14, 6, 56, 6)", x.faceMask(14, 6, 56, 6), 24);
        due("faceCell(14, 6, 56, 6)", x.faceCell(14, 6, 56, 6), 10);
        due("faceMask(14, 6, 56, 0)", x.faceMask(14, 6, 56, 0), 28);
    }

    /** A triangle whose face 1 is degenerate: 0 1 2 goes to a loop there and back. */
    private static void facesOverDegenerateFaces() {
        CHECKS.part("promises 9 and 10, degenerate faces");
        SimplicialSet x = new SimplicialSet();
        x.addVertex();
        x.beginCell(1);
        x.setFace(0, 0, 0);
        x.setFace(1, 0, 0);
        x.endCell();
        x.beginCell(2);
        x.setFace(0, 1, 1);
        x.setFace(1, 0, 0);
        x.setFace(2, 1, 1);
        due("endCell()", x.endCell(), 2);
        due("faceCell(2, 2, 3, 1)", x.faceCell(2, 2, 3, 1), 0);
        due("faceMask(2, 2, 3, 1)", x.faceMask(2, 2, 3, 1), 0);
        due("faceCell(2, 4, 9, 2): 0 1 1 1 2", x.faceCell(2, 4, 9, 2), 2);
        due("faceMask(2, 4, 9, 2)", x.faceMask(2, 4, 9, 2), 5);
        due("faceCell(2, 4, 6, 2): 0 0 1 2 2", x.faceCell(2, 4, 6, 2), 0);
        due("faceMask(2, 4, 6, 2)", x.faceMask(2, 4, 6, 2), 0);
        due("faceCell(2, 4, 12, 4): 0 0 0 1 2", x.faceCell(2, 4, 12, 4), 1);
        due("faceMask(2, 4, 12, 4)", x.faceMask(2, 4, 12, 4), 4);
        due("faceCell(2, 4, 3, 0): 0 1 2 2 2", x.faceCell(2, 4, 3, 0), 1);
        due("faceMask(2, 4, 3, 0)", x.faceMask(2, 4, 3, 0), 1);
    }

    private static void degeneracies() {
        CHECKS.part("promise 11");
        SimplicialSet x = new SimplicialSet();
        x.loadSimplex(3);
        int[] masks = {44, 44, 42, 38, 38, 22};
        for (int i = 0; i <= 5; i++) {
            due("degeneracyMask(14, 5, 22, " + i + ")", x.degeneracyMask(14, 5, 22, i), masks[i]);
        }
        due("degeneracyMask(3, 0, 0, 0)", x.degeneracyMask(3, 0, 0, 0), 0);
        due("degeneracyMask(4, 1, 1, 0)", x.degeneracyMask(4, 1, 1, 0), 2);
        due("degeneracyMask(4, 1, 1, 1)", x.degeneracyMask(4, 1, 1, 1), 1);
        due("degeneracyMask(3, 6, 0, 0)", x.degeneracyMask(3, 6, 0, 0), SimplicialSet.BAD_DIMENSION);
    }

    private static void vertices() {
        CHECKS.part("promise 12");
        SimplicialSet x = new SimplicialSet();
        x.loadSimplex(3);
        int[] numbers = {0, 0, 1, 2, 2, 3};
        for (int j = 0; j <= 5; j++) {
            due("vertex(14, 5, 22, " + j + ")", x.vertex(14, 5, 22, j), numbers[j]);
        }
        int[] ofLastTriangle = {1, 2, 3};
        for (int j = 0; j <= 2; j++) {
            due("vertex(13, 2, 3, " + j + ")", x.vertex(13, 2, 3, j), ofLastTriangle[j]);
        }
        due("vertex(3, 0, 0, 0)", x.vertex(3, 0, 0, 0), 3);
        due("vertex(3, 6, 0, 6)", x.vertex(3, 6, 0, 6), 3);
        x.loadSphere(4);
        for (int j = 0; j <= 4; j++) {
            due("vertex(1, 4, 15, " + j + ")", x.vertex(1, 4, 15, j), 0);
        }
    }

    /** Each call breaks all rules from one on, so that the first one must be reported. */
    private static void errorsInOrder() {
        SimplicialSet x = new SimplicialSet();
        x.loadSimplex(2);
        int[] least = {1, 1, 0, 0};
        int[] greatest = {6, 6, 5, 6};
        for (int which = 0; which < 4; which++) {
            CHECKS.part("promise " + (9 + which) + ", errors");
            due("no cell 7", call(x, which, 7, -1, -1, -1), SimplicialSet.NO_SUCH_CELL);
            due("no cell -1", call(x, which, -1, 9, 99, 9), SimplicialSet.NO_SUCH_CELL);
            due("least dimension", call(x, which, 0, least[which], 0, 0), 0);
            due("below it", call(x, which, 0, least[which] - 1, -1, -1), SimplicialSet.BAD_DIMENSION);
            due("greatest dimension", call(x, which, 0, greatest[which], 0, greatest[which]), 0);
            due("above it", call(x, which, 0, greatest[which] + 1, -1, -1), SimplicialSet.BAD_DIMENSION);
            due("n below m", call(x, which, 6, 1, 1, 9), SimplicialSet.BAD_MASK);
            due("too few bits", call(x, which, 6, 3, 4, -1), SimplicialSet.BAD_MASK);
            due("too many bits", call(x, which, 6, 3, 7, 4), SimplicialSet.BAD_MASK);
            due("a bit above n", call(x, which, 6, 3, 9, 4), SimplicialSet.BAD_MASK);
            due("a mask below 0", call(x, which, 6, 3, Integer.MIN_VALUE + 1, 4), SimplicialSet.BAD_MASK);
            due("a mask of -1", call(x, which, 6, 3, -1, 0), SimplicialSet.BAD_MASK);
            due("place -1", call(x, which, 6, 3, 5, -1), SimplicialSet.BAD_INDEX);
            due("place n + 1", call(x, which, 6, 3, 5, 4), SimplicialSet.BAD_INDEX);
            for (int far : FAR) {
                due("no cell " + far, call(x, which, far, 2, 3, 0), SimplicialSet.NO_SUCH_CELL);
                due("dimension " + far, call(x, which, 6, far, 3, 0), SimplicialSet.BAD_DIMENSION);
                due("mask " + far, call(x, which, 6, 2, far, 0), SimplicialSet.BAD_MASK);
                due("place " + far, call(x, which, 6, 2, 3, far), SimplicialSet.BAD_INDEX);
            }
        }
    }

    /** Every simplex, and every place in it and beside it. */
    private static void everySimplexOfASimplex() {
        CHECKS.part("promises 9 to 13, every simplex of loadSimplex(4)");
        for (int n = 0; n <= 6; n++) {
            for (int cell = 0; cell < 31; cell++) {
                for (int place = -1; place <= n + 1; place++) {
                    askAt(cell, n, place);
                }
            }
        }
    }

    private static void askAt(int cell, int n, int place) {
        Twins twins = new Twins(CHECKS);
        twins.loadSimplex(4);
        for (int mask = 0; mask < 1 << n; mask++) {
            twins.faceCell(cell, n, mask, place);
            twins.faceMask(cell, n, mask, place);
            twins.degeneracyMask(cell, n, mask, place);
            twins.vertex(cell, n, mask, place);
        }
        twins.simplexCount(n);
    }

    private static void counts() {
        CHECKS.part("promise 13");
        SimplicialSet x = new SimplicialSet();
        x.loadSphere(3);
        int[] counts = {1, 1, 1, 2, 5, 11, 21};
        for (int n = 0; n <= 6; n++) {
            due("simplexCount(" + n + ")", x.simplexCount(n), counts[n]);
        }
        due("simplexCount(-1)", x.simplexCount(-1), SimplicialSet.BAD_DIMENSION);
        due("simplexCount(7)", x.simplexCount(7), SimplicialSet.BAD_DIMENSION);
        for (int far : FAR) {
            due("simplexCount(" + far + ")", x.simplexCount(far), SimplicialSet.BAD_DIMENSION);
        }
    }
}
