/**
 * A full set: FULL of addVertex, endCell and product at 48 cells, what is still allowed at 47, and which error
 * comes first where another one applies as well.
 */
public final class FullSetTest {
    private static final Checks CHECKS = new Checks();

    public static void main(String[] args) {
        addVertexAtTheLimit();
        endCellAtTheLimit();
        theDraftAndTheLastPlace();
        otherErrorsOfEndCellFirst();
        stillAllowed();
        errorsThatAreNotFull();
        productsOfVerticesAtTheLimit();
        productsOfEdgesAtTheLimit();
        productsOfDimensionFourAtTheLimit();
        productOfAFullSet();
        productDimensionFirst();
        afterAFullProduct();
        countsInFullSets();
        CHECKS.finish();
    }

    private static void addVertexAtTheLimit() {
        CHECKS.part("addVertex");
        Calls x = Calls.withVertices(CHECKS, 46);
        x.due(46, "addVertex").due(47, "cellCount", 0);
        x.due(47, "addVertex").due(48, "cellCount", 0);
        x.due(SimplicialSet.FULL, "addVertex").due(SimplicialSet.FULL, "addVertex").due(48, "cellCount", 0);
        x.due(0, "dimension", 47).due(SimplicialSet.NO_SUCH_CELL, "dimension", 48).due(48, "clear").due(0, "addVertex");
    }

    private static void endCellAtTheLimit() {
        for (int m = 1; m <= 4; m++) {
            CHECKS.part("endCell, dimension " + m);
            Calls x = Calls.withVertices(CHECKS, 46);
            CHECKS.due("the 47th cell", x.sphere(m), 46);
            CHECKS.due("the 48th cell", x.sphere(m), 47);
            CHECKS.due("the 49th cell", x.sphere(m), SimplicialSet.FULL);
            x.due(2, "cellCount", m).due(m, "dimension", 47).due(SimplicialSet.NO_SUCH_CELL, "dimension", 48);
            x.due(SimplicialSet.FULL, "endCell").due(1, "setFace", m, 45, 0).due(1, "setFace", m, 0, 0);
            x.due(SimplicialSet.FULL, "endCell").due(SimplicialSet.FULL, "addVertex").due(48, "clear");
            x.due(SimplicialSet.NO_DRAFT, "endCell");
        }
    }

    private static void theDraftAndTheLastPlace() {
        CHECKS.part("a draft takes no place before it is stored");
        Calls x = Calls.withVertices(CHECKS, 47).due(1, "beginCell", 1).faces(0, 0, 46, 0);
        x.due(47, "addVertex").due(SimplicialSet.FULL, "endCell").due(SimplicialSet.FULL, "addVertex");
        x.due(48, "cellCount", 0).due(0, "cellCount", 1);
        x = Calls.withVertices(CHECKS, 47).due(1, "beginCell", 1).faces(0, 0, 46, 0);
        x.due(47, "endCell").due(SimplicialSet.FULL, "addVertex").due(SimplicialSet.NO_DRAFT, "endCell");
        x.due(0, "faceCell", 47, 1, 1, 0).due(46, "faceCell", 47, 1, 1, 1);
    }

    private static void otherErrorsOfEndCellFirst() {
        CHECKS.part("endCell of a full set, other errors first");
        Calls x = Calls.withVertices(CHECKS, 46);
        CHECKS.due("the edge", x.cell(1, 0, 0, 0), 46);
        CHECKS.due("the loop", x.cell(0, 0, 0, 0), 47);
        x.due(SimplicialSet.NO_DRAFT, "endCell").due(1, "beginCell", 2).due(SimplicialSet.INCOMPLETE, "endCell");
        x.faces(46, 1, 47, 1).due(SimplicialSet.INCOMPLETE, "endCell");
        x.due(1, "setFace", 2, 46, 1).due(SimplicialSet.IDENTITY, "endCell");
        x.faces(46, 1, 46, 1, 47, 1).due(SimplicialSet.FULL, "endCell");
        x.due(1, "beginCell", 2).due(SimplicialSet.INCOMPLETE, "endCell");
    }

    private static void stillAllowed() {
        CHECKS.part("calls that a full set does not refuse");
        Calls x = Calls.withVertices(CHECKS, 48);
        x.due(1, "beginCell", 4).due(1, "setFace", 4, 47, 0).due(48, "save").due(48, "partCount").due(48, "betti", 0);
        x.due(48, "simplexCount", 6).due(48, "hornCount", 0).due(47, "vertex", 47, 6, 0, 6);
        x.due(31, "loadSimplex", 4).vertices(17).due(SimplicialSet.FULL, "addVertex").due(2, "loadSphere", 1);
        x.vertices(46).due(SimplicialSet.FULL, "addVertex").due(48, "clear").due(0, "addVertex").due(48, "product");
    }

    private static void errorsThatAreNotFull() {
        CHECKS.part("other errors in a full set");
        Calls x = Calls.withVertices(CHECKS, 48);
        x.due(SimplicialSet.BAD_DIMENSION, "beginCell", 5).due(SimplicialSet.NO_DRAFT, "setFace", 0, 48, 0);
        x.due(1, "beginCell", 1).due(SimplicialSet.BAD_INDEX, "setFace", 2, 48, 1);
        x.due(SimplicialSet.NO_SUCH_CELL, "setFace", 1, 48, 1).due(SimplicialSet.BAD_MASK, "setFace", 1, 47, 1);
        x.due(SimplicialSet.BAD_DIMENSION, "loadSimplex", 5).due(SimplicialSet.BAD_DIMENSION, "loadSphere", 0);
        x.due(SimplicialSet.FULL, "addVertex").due(48, "cellCount", 0);
    }

    /** As many loose vertices in the present set, and as many in the saved one. */
    private static Calls vertexSets(int present, int saved) {
        Calls x = Calls.withVertices(CHECKS, saved);
        return x.due(saved, "save").due(saved, "clear").vertices(present);
    }

    private static void productsOfVerticesAtTheLimit() {
        CHECKS.part("product of vertices, 47, 48 and more cells");
        int[][] allowed = {{1, 47}, {47, 1}, {1, 48}, {48, 1}, {2, 24}, {24, 2}, {6, 8}, {8, 6}, {3, 16}};
        for (int[] sizes : allowed) {
            int due = sizes[0] * sizes[1];
            Calls x = vertexSets(sizes[0], sizes[1]).due(due, "product").due(due, "cellCount", 0);
            x.due(due == 48 ? SimplicialSet.FULL : 47, "addVertex");
        }
        int[][] refused = {{7, 7}, {2, 25}, {25, 2}, {48, 2}, {2, 48}, {48, 48}, {5, 10}};
        for (int[] sizes : refused) {
            vertexSets(sizes[0], sizes[1]).due(SimplicialSet.FULL, "product").due(sizes[0], "cellCount", 0);
        }
    }

    /** Saves a set of vertices and of cells of dimension m over its vertex 0, and begins such a set anew. */
    private static Calls sets(int m, int vertices, int cells, int savedVertices, int savedCells) {
        Calls x = Calls.withVertices(CHECKS, savedVertices);
        for (int each = 0; each < savedCells; each++) {
            x.sphere(m);
        }
        x.due(savedVertices + savedCells, "save").due(savedVertices + savedCells, "clear").vertices(vertices);
        for (int each = 0; each < cells; each++) {
            x.sphere(m);
        }
        return x;
    }

    /** Two cells of dimension 1 make three product cells of dimensions 1 and 2. */
    private static void productsOfEdgesAtTheLimit() {
        CHECKS.part("product of dimension 2, 48 and 49 cells");
        Calls x = sets(1, 2, 1, 1, 9).due(48, "product").due(2, "cellCount", 0).due(28, "cellCount", 1);
        x.due(18, "cellCount", 2).due(SimplicialSet.FULL, "addVertex");
        sets(1, 1, 9, 2, 1).due(48, "product").due(18, "cellCount", 2);
        sets(1, 2, 3, 1, 4).due(SimplicialSet.FULL, "product").due(2, "cellCount", 0).due(3, "cellCount", 1);
        sets(1, 1, 4, 2, 3).due(SimplicialSet.FULL, "product").due(1, "cellCount", 0).due(4, "cellCount", 1);
    }

    /** Two cells of dimension 2 make thirteen product cells of dimensions 2 to 4. */
    private static void productsOfDimensionFourAtTheLimit() {
        CHECKS.part("product of dimension 4, 48 and 49 cells");
        Calls x = sets(2, 1, 1, 3, 3).due(48, "product").due(3, "cellCount", 0).due(0, "cellCount", 1);
        x.due(9, "cellCount", 2).due(18, "cellCount", 3).due(18, "cellCount", 4).due(SimplicialSet.FULL, "addVertex");
        sets(2, 3, 3, 1, 1).due(48, "product").due(18, "cellCount", 4);
        sets(2, 4, 1, 3, 2).due(SimplicialSet.FULL, "product").due(4, "cellCount", 0).due(1, "cellCount", 2);
        sets(2, 3, 2, 4, 1).due(SimplicialSet.FULL, "product").due(3, "cellCount", 0).due(2, "cellCount", 2);
    }

    private static void productOfAFullSet() {
        CHECKS.part("product of 48 cells with a vertex, and of a vertex with 48 cells");
        Calls x = Calls.withVertices(CHECKS, 1).due(1, "save").due(31, "loadSimplex", 4).vertices(17);
        x.due(48, "product").due(22, "cellCount", 0).due(10, "cellCount", 1).due(1, "cellCount", 4);
        x.due(48, "save").due(1, "loadSimplex", 0).due(48, "product").due(1, "cellCount", 4).due(18, "partCount");
        x.due(SimplicialSet.FULL, "addVertex");
    }

    private static void productDimensionFirst() {
        CHECKS.part("product, BAD_DIMENSION before FULL");
        // 48 cells of dimension 1, and a saved set of dimension 4: 5, and some 100 cells
        Calls x = new Calls(CHECKS).due(2, "loadSphere", 4).due(2, "save").due(3, "loadSimplex", 1).vertices(45);
        x.due(SimplicialSet.BAD_DIMENSION, "product").due(47, "cellCount", 0);
        // 48 cells of dimension 0: 4, and 96 cells
        x = new Calls(CHECKS).due(2, "loadSphere", 4).due(2, "save").due(2, "clear").vertices(48);
        x.due(SimplicialSet.FULL, "product").due(48, "cellCount", 0);
        // the least set of dimension 5
        x = new Calls(CHECKS).due(2, "loadSphere", 4).due(2, "save").due(2, "loadSphere", 1);
        x.due(SimplicialSet.BAD_DIMENSION, "product").due(1, "dimension", 1);
    }

    private static void afterAFullProduct() {
        CHECKS.part("after a product of 48 cells and after one that was refused");
        Calls x = vertexSets(8, 6).due(48, "product").due(SimplicialSet.FULL, "product").due(48, "cellCount", 0);
        x.due(1, "loadSimplex", 0).due(6, "product");
        x = vertexSets(7, 7).due(SimplicialSet.FULL, "product").due(7, "addVertex").due(SimplicialSet.FULL, "product");
        x.due(8, "clear").due(0, "addVertex").due(7, "product");
    }

    /** The greatest numbers that the counts can answer. */
    private static void countsInFullSets() {
        CHECKS.part("a vertex and 47 loops");
        Calls x = Calls.withVertices(CHECKS, 1);
        for (int loop = 0; loop < 47; loop++) {
            x.sphere(1);
        }
        x.due(47, "betti", 1).due(1, "partCount").due(-46, "eulerCharacteristic").due(1 + 47 * 6, "simplexCount", 6);
        for (int k = 0; k <= 2; k++) {
            // 48 * 48 pairs meet; the 47 loops have two degenerate fillers each, the vertex has one.
            x.due(2304, "hornCount", k).due(2209, "unfilledCount", k);
        }
        for (int m = 2; m <= 4; m++) {
            CHECKS.part("a vertex and 47 cells of dimension " + m);
            x = Calls.withVertices(CHECKS, 1);
            for (int cell = 0; cell < 47; cell++) {
                x.sphere(m);
            }
            int overEach = m == 3 ? 20 : 15;
            x.due(47, "betti", m).due(0, "torsionCount", m - 1).due(m == 3 ? -46 : 48, "eulerCharacteristic");
            x.due(1 + 47 * overEach, "simplexCount", 6).due(1, "hornCount", 0).due(0, "unfilledCount", 0);
        }
    }
}
