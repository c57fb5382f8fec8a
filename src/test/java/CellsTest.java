/** Promises 1 to 8: a new object, addVertex, beginCell, setFace, endCell, clear, cellCount, dimension. */
public final class CellsTest {
    private static final int[] FAR = {Integer.MIN_VALUE, -1000, 1000, Integer.MAX_VALUE};
    private static final Checks CHECKS = new Checks();

    private static void due(String call, long got, long want) {
        CHECKS.due(call, got, want);
    }

    public static void main(String[] args) {
        newObject();
        vertices();
        beginning();
        settingFaces();
        ending();
        identities();
        fullWhenEnding();
        errorsOfEndingInOrder();
        clearing();
        counting();
        CHECKS.finish();
    }

    /** A set of two vertices 0 and 1, an edge 2 from 0 to 1 and a loop 3 at 0. */
    private static SimplicialSet edgeAndLoop() {
        SimplicialSet x = new SimplicialSet();
        x.addVertex();
        x.addVertex();
        store(x, 1, 1, 0, 0, 0);
        store(x, 1, 0, 0, 0, 0);
        return x;
    }

    /** Builds a cell from its faces, each given as a cell and a mask; answers what endCell does. */
    private static int store(SimplicialSet x, int dimension, int... faces) {
        x.beginCell(dimension);
        for (int k = 0; 2 * k + 1 < faces.length; k++) {
            due("setFace in a cell of dimension " + dimension, x.setFace(k, faces[2 * k], faces[2 * k + 1]), 1);
        }
        return x.endCell();
    }

    private static void newObject() {
        CHECKS.part("promise 1");
        SimplicialSet x = new SimplicialSet();
        for (int n = 0; n <= 4; n++) {
            due("cellCount(" + n + ")", x.cellCount(n), 0);
            due("betti(" + n + ")", x.betti(n), 0);
            due("torsionCount(" + n + ")", x.torsionCount(n), 0);
            due("torsion(" + n + ", 0)", x.torsion(n, 0), SimplicialSet.NONE);
        }
        due("dimension(0)", x.dimension(0), SimplicialSet.NO_SUCH_CELL);
        due("endCell()", x.endCell(), SimplicialSet.NO_DRAFT);
        due("setFace(0, 0, 0)", x.setFace(0, 0, 0), SimplicialSet.NO_DRAFT);
        due("simplexCount(6)", x.simplexCount(6), 0);
        due("eulerCharacteristic()", x.eulerCharacteristic(), 0);
        due("partCount()", x.partCount(), 0);
        due("hornCount(0)", x.hornCount(0), 0);
        due("unfilledCount(2)", x.unfilledCount(2), 0);
        due("clear()", x.clear(), 0);
        due("save()", x.save(), 0);
        due("product()", x.product(), 0);
    }

    private static void vertices() {
        CHECKS.part("promise 2");
        SimplicialSet x = new SimplicialSet();
        for (int cell = 0; cell < 48; cell++) {
            due("addVertex()", x.addVertex(), cell);
            due("dimension(" + cell + ")", x.dimension(cell), 0);
        }
        due("addVertex() as the 49th", x.addVertex(), SimplicialSet.FULL);
        due("cellCount(0)", x.cellCount(0), 48);
        due("dimension(48)", x.dimension(48), SimplicialSet.NO_SUCH_CELL);
        due("partCount()", x.partCount(), 48);
        due("betti(0)", x.betti(0), 48);

        x = new SimplicialSet();
        x.addVertex();
        x.beginCell(1);
        x.setFace(0, 0, 0);
        due("addVertex() beside a draft", x.addVertex(), 1);
        due("setFace(1, 1, 0)", x.setFace(1, 1, 0), 1);
        due("endCell()", x.endCell(), 2);
        due("faceCell(2, 1, 1, 0)", x.faceCell(2, 1, 1, 0), 0);
        due("faceCell(2, 1, 1, 1)", x.faceCell(2, 1, 1, 1), 1);
    }

    private static void beginning() {
        CHECKS.part("promise 3");
        SimplicialSet x = edgeAndLoop();
        for (int m = 1; m <= 4; m++) {
            due("beginCell(" + m + ")", x.beginCell(m), 1);
            due("setFace(m, 0, 0)", x.setFace(m, 0, 0), 1);
            due("setFace(m + 1, 0, 0)", x.setFace(m + 1, 0, 0), SimplicialSet.BAD_INDEX);
        }
        x.beginCell(1);
        x.setFace(0, 1, 0);
        x.setFace(1, 1, 0);
        due("beginCell(0)", x.beginCell(0), SimplicialSet.BAD_DIMENSION);
        due("beginCell(5)", x.beginCell(5), SimplicialSet.BAD_DIMENSION);
        due("beginCell(-1)", x.beginCell(-1), SimplicialSet.BAD_DIMENSION);
        for (int far : FAR) {
            due("beginCell(" + far + ")", x.beginCell(far), SimplicialSet.BAD_DIMENSION);
        }
        due("endCell() of the draft that stayed", x.endCell(), 4);
        due("beginCell(0) without a draft", x.beginCell(0), SimplicialSet.BAD_DIMENSION);
        due("endCell()", x.endCell(), SimplicialSet.NO_DRAFT);
        x.beginCell(1);
        x.setFace(0, 0, 0);
        x.setFace(1, 0, 0);
        due("beginCell(1) in place of a draft", x.beginCell(1), 1);
        due("endCell() with no face set", x.endCell(), SimplicialSet.INCOMPLETE);
        x.setFace(1, 0, 0);
        due("endCell() with one face set", x.endCell(), SimplicialSet.INCOMPLETE);
    }

    private static void settingFaces() {
        CHECKS.part("promise 4");
        SimplicialSet x = edgeAndLoop();
        due("setFace(-1, -1, -1)", x.setFace(-1, -1, -1), SimplicialSet.NO_DRAFT);
        x.beginCell(2);
        due("setFace(-1, 9, 9)", x.setFace(-1, 9, 9), SimplicialSet.BAD_INDEX);
        due("setFace(3, 9, 9)", x.setFace(3, 9, 9), SimplicialSet.BAD_INDEX);
        due("setFace(0, -1, 9)", x.setFace(0, -1, 9), SimplicialSet.NO_SUCH_CELL);
        due("setFace(0, 4, 9)", x.setFace(0, 4, 9), SimplicialSet.NO_SUCH_CELL);
        due("setFace(0, 0, 1)", x.setFace(0, 0, 1), SimplicialSet.BAD_MASK);
        due("setFace(0, 2, 0)", x.setFace(0, 2, 0), SimplicialSet.BAD_MASK);
        due("setFace(0, 2, 2)", x.setFace(0, 2, 2), SimplicialSet.BAD_MASK);
        due("setFace(0, 2, 3)", x.setFace(0, 2, 3), SimplicialSet.BAD_MASK);
        due("setFace(0, 2, -1)", x.setFace(0, 2, -1), SimplicialSet.BAD_MASK);
        for (int far : FAR) {
            due("setFace(" + far + ", 0, 0)", x.setFace(far, 0, 0), SimplicialSet.BAD_INDEX);
            due("setFace(0, " + far + ", 0)", x.setFace(0, far, 0), SimplicialSet.NO_SUCH_CELL);
            due("setFace(0, 2, " + far + ")", x.setFace(0, 2, far), SimplicialSet.BAD_MASK);
        }
        due("setFace(0, 0, 0)", x.setFace(0, 0, 0), 1);
        due("setFace(1, 3, 1)", x.setFace(1, 3, 1), 1);
        due("setFace(2, 2, 1)", x.setFace(2, 2, 1), 1);
        due("setFace(2, 3, 1) again", x.setFace(2, 3, 1), 1);
        due("setFace(2, 2, 0) leaves the face", x.setFace(2, 2, 0), SimplicialSet.BAD_MASK);
        due("setFace(2, 9, 1) leaves the face", x.setFace(2, 9, 1), SimplicialSet.NO_SUCH_CELL);
        due("endCell()", x.endCell(), 4);
        due("faceCell(4, 2, 3, 2)", x.faceCell(4, 2, 3, 2), 3);
        due("faceMask(4, 2, 3, 2)", x.faceMask(4, 2, 3, 2), 1);
        x.beginCell(1);
        due("setFace(0, 2, 0): an edge is no face of an edge", x.setFace(0, 2, 0), SimplicialSet.BAD_MASK);
        due("setFace(0, 2, 1): an edge is no face of an edge", x.setFace(0, 2, 1), SimplicialSet.BAD_MASK);
        due("setFace(0, 4, 3): nor is a triangle", x.setFace(0, 4, 3), SimplicialSet.BAD_MASK);
        x.beginCell(4);
        due("setFace(4, 4, 3)", x.setFace(4, 4, 3), 1);
        due("setFace(4, 4, 5)", x.setFace(4, 4, 5), 1);
        due("setFace(4, 4, 6)", x.setFace(4, 4, 6), 1);
        due("setFace(4, 4, 7)", x.setFace(4, 4, 7), SimplicialSet.BAD_MASK);
        due("setFace(4, 4, 9)", x.setFace(4, 4, 9), SimplicialSet.BAD_MASK);
    }

    private static void ending() {
        CHECKS.part("promise 5");
        SimplicialSet x = new SimplicialSet();
        due("endCell() without a draft", x.endCell(), SimplicialSet.NO_DRAFT);
        due("addVertex()", x.addVertex(), 0);
        for (int m = 1; m <= 4; m++) {
            x.beginCell(m);
            for (int k = m; k >= 0; k--) {
                due("endCell() too early", x.endCell(), SimplicialSet.INCOMPLETE);
                due("setFace(" + k + ", 0, 0)", x.setFace(k, 0, 0), 1);
            }
            due("endCell()", x.endCell(), m);
            due("dimension(" + m + ")", x.dimension(m), m);
            due("endCell() again", x.endCell(), SimplicialSet.NO_DRAFT);
            due("setFace(0, 0, 0) after it", x.setFace(0, 0, 0), SimplicialSet.NO_DRAFT);
        }
        due("cellCount(4)", x.cellCount(4), 1);
        due("cellCount(1)", x.cellCount(1), 1);
        due("faceCell(4, 4, 15, 3)", x.faceCell(4, 4, 15, 3), 0);
        due("faceMask(4, 4, 15, 3)", x.faceMask(4, 4, 15, 3), 0);
    }

    private static void identities() {
        CHECKS.part("promise 5, identities");
        SimplicialSet x = edgeAndLoop();
        due("edge, edge, loop", store(x, 2, 2, 1, 2, 1, 3, 1), 4);
        due("edge, loop, edge", store(x, 2, 2, 1, 3, 1, 2, 1), SimplicialSet.IDENTITY);
        due("loop, edge, edge", store(x, 2, 3, 1, 2, 1, 2, 1), SimplicialSet.IDENTITY);
        due("at 1, edge, edge", store(x, 2, 1, 0, 2, 1, 2, 1), 5);
        due("at 0, edge, edge", store(x, 2, 0, 0, 2, 1, 2, 1), SimplicialSet.IDENTITY);
        due("setFace(0, 1, 0) in the draft that stayed", x.setFace(0, 1, 0), 1);
        due("endCell() of the mended draft", x.endCell(), 6);
        due("cellCount(2)", x.cellCount(2), 3);
        // The identities of edges: an edge may have any two vertices.
        due("edge from 1 to 0", store(x, 1, 0, 0, 1, 0), 7);
        // The same cells with other masks: a tetrahedron needs equal masks too.
        due("boundary of a degenerate tetrahedron", store(x, 3, 4, 3, 4, 3, 2, 2, 3, 2), 8);
        due("the same with one other mask", store(x, 3, 4, 3, 4, 3, 2, 1, 3, 2), SimplicialSet.IDENTITY);
        due("the same with another mask", store(x, 3, 4, 3, 4, 3, 2, 2, 3, 1), SimplicialSet.IDENTITY);
    }

    private static void fullWhenEnding() {
        CHECKS.part("promise 5, room");
        SimplicialSet x = new SimplicialSet();
        for (int cell = 0; cell < 47; cell++) {
            x.addVertex();
        }
        due("the 48th cell", store(x, 1, 46, 0, 0, 0), 47);
        due("the 49th cell", store(x, 1, 46, 0, 0, 0), SimplicialSet.FULL);
        due("endCell() again: the draft stayed", x.endCell(), SimplicialSet.FULL);
        due("setFace(0, 1, 0): the draft stayed", x.setFace(0, 1, 0), 1);
        due("addVertex()", x.addVertex(), SimplicialSet.FULL);
        due("cellCount(1)", x.cellCount(1), 1);
        due("faceCell(47, 1, 1, 0)", x.faceCell(47, 1, 1, 0), 46);
        due("clear()", x.clear(), 48);
        due("endCell() after clear", x.endCell(), SimplicialSet.NO_DRAFT);
    }

    private static void errorsOfEndingInOrder() {
        CHECKS.part("promise 5, order of the errors");
        SimplicialSet x = edgeAndLoop();
        for (int cell = 4; cell < 48; cell++) {
            x.addVertex();
        }
        due("endCell() in a full set", x.endCell(), SimplicialSet.NO_DRAFT);
        x.beginCell(2);
        x.setFace(0, 2, 1);
        x.setFace(1, 3, 1);
        due("endCell() incomplete, wrong and full", x.endCell(), SimplicialSet.INCOMPLETE);
        x.setFace(2, 2, 1);
        due("endCell() wrong and full", x.endCell(), SimplicialSet.IDENTITY);
        x.setFace(1, 2, 1);
        x.setFace(2, 3, 1);
        due("endCell() full", x.endCell(), SimplicialSet.FULL);
    }

    private static void clearing() {
        CHECKS.part("promise 6");
        SimplicialSet x = edgeAndLoop();
        x.save();
        x.beginCell(1);
        due("clear()", x.clear(), 4);
        due("endCell()", x.endCell(), SimplicialSet.NO_DRAFT);
        due("cellCount(0)", x.cellCount(0), 0);
        due("dimension(0)", x.dimension(0), SimplicialSet.NO_SUCH_CELL);
        due("clear() again", x.clear(), 0);
        due("addVertex()", x.addVertex(), 0);
        due("product() with the saved set, which stayed", x.product(), 4);
        due("cellCount(1)", x.cellCount(1), 2);
    }

    private static void counting() {
        CHECKS.part("promises 7 and 8");
        SimplicialSet x = new SimplicialSet();
        x.loadSimplex(4);
        int[] counts = {5, 10, 10, 5, 1};
        int cell = 0;
        for (int m = 0; m <= 4; m++) {
            due("cellCount(" + m + ")", x.cellCount(m), counts[m]);
            for (int each = 0; each < counts[m]; each++) {
                due("dimension(" + cell + ")", x.dimension(cell), m);
                cell++;
            }
        }
        due("cellCount(-1)", x.cellCount(-1), SimplicialSet.BAD_DIMENSION);
        due("cellCount(5)", x.cellCount(5), SimplicialSet.BAD_DIMENSION);
        due("dimension(-1)", x.dimension(-1), SimplicialSet.NO_SUCH_CELL);
        due("dimension(31)", x.dimension(31), SimplicialSet.NO_SUCH_CELL);
        for (int far : FAR) {
            due("cellCount(" + far + ")", x.cellCount(far), SimplicialSet.BAD_DIMENSION);
            due("dimension(" + far + ")", x.dimension(far), SimplicialSet.NO_SUCH_CELL);
        }
    }
}
