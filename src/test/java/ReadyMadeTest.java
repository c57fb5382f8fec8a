/** Promises 22 to 25: loadSimplex, loadSphere, save, product. */
public final class ReadyMadeTest {
    private static final int[] FAR = {Integer.MIN_VALUE, -1000, -1, 5, 1000, Integer.MAX_VALUE};
    private static final Checks CHECKS = new Checks();

    private static void due(String call, long got, long want) {
        CHECKS.due(call, got, want);
    }

    public static void main(String[] args) {
        simplexInFull();
        simplexSizes();
        sphereInFull();
        loadingRemovesTheDraft();
        saving();
        squareInFull();
        productErrors();
        productWithoutCells();
        productRemovesTheDraft();
        productsOfManySets();
        productsOfProducts();
        productAtTheLimit();
        CHECKS.finish();
    }

    private static void dueFaces(SimplicialSet x, int cell, int... cells) {
        int m = cells.length - 1;
        due("dimension(" + cell + ")", x.dimension(cell), m);
        for (int k = 0; k <= m; k++) {
            due("face " + k + " of cell " + cell, x.faceCell(cell, m, (1 << m) - 1, k), cells[k]);
        }
    }

    private static void dueMasks(SimplicialSet x, int cell, int... masks) {
        int m = masks.length - 1;
        for (int k = 0; k <= m; k++) {
            due("mask of face " + k + " of cell " + cell, x.faceMask(cell, m, (1 << m) - 1, k), masks[k]);
        }
    }

    private static void simplexInFull() {
        CHECKS.part("promise 22");
        SimplicialSet x = new SimplicialSet();
        x.addVertex();
        due("loadSimplex(3)", x.loadSimplex(3), 15);
        // 01 02 03 12 13 23, then 012 013 023 123, then 0123
        int[][] edges = {{1, 0}, {2, 0}, {3, 0}, {2, 1}, {3, 1}, {3, 2}};
        int[][] triangles = {{7, 5, 4}, {8, 6, 4}, {9, 6, 5}, {9, 8, 7}};
        for (int at = 0; at < edges.length; at++) {
            dueFaces(x, 4 + at, edges[at]);
            dueMasks(x, 4 + at, 0, 0);
        }
        for (int at = 0; at < triangles.length; at++) {
            dueFaces(x, 10 + at, triangles[at]);
            dueMasks(x, 10 + at, 1, 1, 1);
        }
        dueFaces(x, 14, 13, 12, 11, 10);
        dueMasks(x, 14, 3, 3, 3, 3);
        for (int cell = 0; cell < 4; cell++) {
            due("dimension(" + cell + ")", x.dimension(cell), 0);
        }
        due("loadSimplex(4)", x.loadSimplex(4), 31);
        dueFaces(x, 30, 29, 28, 27, 26, 25);
        dueMasks(x, 30, 7, 7, 7, 7, 7);
        due("addVertex()", x.addVertex(), 31);
    }

    private static void simplexSizes() {
        CHECKS.part("promise 22, sizes and errors");
        SimplicialSet x = new SimplicialSet();
        for (int n = 0; n <= 4; n++) {
            due("loadSimplex(" + n + ")", x.loadSimplex(n), (1 << (n + 1)) - 1);
            due("cellCount(n)", x.cellCount(n), 1);
            due("cellCount(0)", x.cellCount(0), n + 1);
        }
        for (int far : FAR) {
            due("loadSimplex(" + far + ")", x.loadSimplex(far), SimplicialSet.BAD_DIMENSION);
            due("cellCount(1) after it", x.cellCount(1), 10);
        }
    }

    private static void sphereInFull() {
        CHECKS.part("promise 23");
        SimplicialSet x = new SimplicialSet();
        x.loadSimplex(3);
        for (int n = 1; n <= 4; n++) {
            due("loadSphere(" + n + ")", x.loadSphere(n), 2);
            due("dimension(0)", x.dimension(0), 0);
            due("dimension(1)", x.dimension(1), n);
            due("dimension(2)", x.dimension(2), SimplicialSet.NO_SUCH_CELL);
            for (int k = 0; k <= n; k++) {
                due("faceCell(1, n, all, k)", x.faceCell(1, n, (1 << n) - 1, k), 0);
                due("faceMask(1, n, all, k)", x.faceMask(1, n, (1 << n) - 1, k), 0);
            }
        }
        for (int far : FAR) {
            due("loadSphere(" + far + ")", x.loadSphere(far), SimplicialSet.BAD_DIMENSION);
        }
        due("loadSphere(0)", x.loadSphere(0), SimplicialSet.BAD_DIMENSION);
        due("dimension(1) after errors", x.dimension(1), 4);
    }

    private static void loadingRemovesTheDraft() {
        CHECKS.part("promises 22 and 23, the draft");
        SimplicialSet x = new SimplicialSet();
        x.addVertex();
        x.beginCell(1);
        x.setFace(0, 0, 0);
        due("loadSimplex(5)", x.loadSimplex(5), SimplicialSet.BAD_DIMENSION);
        due("loadSphere(0)", x.loadSphere(0), SimplicialSet.BAD_DIMENSION);
        due("setFace(1, 0, 0): the draft stays after errors", x.setFace(1, 0, 0), 1);
        due("endCell()", x.endCell(), 1);
        x.beginCell(1);
        x.loadSimplex(0);
        due("endCell() after loadSimplex", x.endCell(), SimplicialSet.NO_DRAFT);
        x.beginCell(1);
        x.loadSphere(1);
        due("endCell() after loadSphere", x.endCell(), SimplicialSet.NO_DRAFT);
    }

    private static void saving() {
        CHECKS.part("promise 24");
        SimplicialSet x = new SimplicialSet();
        x.loadSimplex(2);
        x.beginCell(1);
        x.setFace(0, 2, 0);
        due("save()", x.save(), 7);
        due("setFace(1, 2, 0): the draft stays", x.setFace(1, 2, 0), 1);
        due("endCell()", x.endCell(), 7);
        x.loadSimplex(0);
        due("product() with the copy as it was when saved", x.product(), 7);
        dueFaces(x, 6, 5, 4, 3);
        due("cellCount(1)", x.cellCount(1), 3);
        x.loadSphere(2);
        due("save() in place of the first", x.save(), 2);
        x.loadSimplex(0);
        due("product()", x.product(), 2);
        due("dimension(1)", x.dimension(1), 2);
        x.clear();
        due("save() of nothing", x.save(), 0);
        x.loadSimplex(3);
        due("product()", x.product(), 0);
    }

    /** The edge 0 1 times itself: the cells are pairs (first cell, A, second cell, B). */
    private static void squareInFull() {
        CHECKS.part("promise 25");
        SimplicialSet x = new SimplicialSet();
        x.loadSimplex(1);
        x.save();
        due("product()", x.product(), 11);
        due("cellCount(0)", x.cellCount(0), 4);
        due("cellCount(1)", x.cellCount(1), 5);
        due("cellCount(2)", x.cellCount(2), 2);
        // The vertices 0 to 3 are 00 01 10 11.
        dueFaces(x, 4, 1, 0);
        dueFaces(x, 5, 3, 2);
        dueFaces(x, 6, 2, 0);
        dueFaces(x, 7, 3, 1);
        dueFaces(x, 8, 3, 0);
        // A = 1, B = 2: first along the first edge; A = 2, B = 1: first along the second edge.
        dueFaces(x, 9, 5, 8, 6);
        dueFaces(x, 10, 7, 8, 4);
        dueMasks(x, 9, 1, 1, 1);
        dueMasks(x, 10, 1, 1, 1);
    }

    private static void productErrors() {
        CHECKS.part("promise 25, errors");
        SimplicialSet x = new SimplicialSet();
        x.loadSphere(2);
        x.save();
        x.loadSphere(3);
        x.beginCell(1);
        due("product() of dimension 5", x.product(), SimplicialSet.BAD_DIMENSION);
        due("dimension(1)", x.dimension(1), 3);
        due("setFace(0, 0, 0): the draft stays", x.setFace(0, 0, 0), 1);
        x.loadSimplex(4);
        due("product() of dimension 6 and too large", x.product(), SimplicialSet.BAD_DIMENSION);
        x.loadSimplex(2);
        x.save();
        x.beginCell(1);
        due("product() too large", x.product(), SimplicialSet.FULL);
        due("cellCount(1)", x.cellCount(1), 3);
        dueFaces(x, 6, 5, 4, 3);
        due("setFace(0, 0, 0): the draft stays", x.setFace(0, 0, 0), 1);
        x.loadSimplex(0);
        due("product() with the saved set, which stayed", x.product(), 7);
    }

    private static void productWithoutCells() {
        CHECKS.part("promise 25, no cells");
        SimplicialSet x = new SimplicialSet();
        x.loadSimplex(4);
        due("product() with nothing saved", x.product(), 0);
        due("cellCount(4)", x.cellCount(4), 0);
        x.loadSphere(4);
        x.save();
        x.clear();
        due("product() of nothing", x.product(), 0);
        due("addVertex()", x.addVertex(), 0);
        due("product() of a vertex", x.product(), 2);
        due("dimension(1)", x.dimension(1), 4);
        due("product() of dimension 8", x.product(), SimplicialSet.BAD_DIMENSION);
    }

    private static void productRemovesTheDraft() {
        CHECKS.part("promise 25, the draft");
        SimplicialSet x = new SimplicialSet();
        x.loadSimplex(1);
        x.save();
        x.beginCell(1);
        due("product()", x.product(), 11);
        due("endCell()", x.endCell(), SimplicialSet.NO_DRAFT);
        due("setFace(0, 0, 0)", x.setFace(0, 0, 0), SimplicialSet.NO_DRAFT);
        due("save()", x.save(), 11);
        x.loadSimplex(1);
        due("product()", x.product(), SimplicialSet.FULL);
    }

    /** Each ready-made set times each: spheres have degenerate faces, simplices have none. */
    private static void productsOfManySets() {
        for (int first = 0; first < 9; first++) {
            for (int second = 0; second < 9; second++) {
                CHECKS.part("promise 25, sets " + first + " and " + second);
                Twins twins = new Twins(CHECKS);
                load(twins, second);
                twins.save();
                load(twins, first);
                twins.product();
                twins.lookAround();
            }
        }
    }

    private static void load(Twins twins, int which) {
        if (which < 5) {
            twins.loadSimplex(which);
        } else {
            twins.loadSphere(which - 4);
        }
    }

    /** The present set of a second product is itself a product, and its first cells are read while new ones are made. */
    private static void productsOfProducts() {
        for (int which = 5; which < 7; which++) {
            CHECKS.part("promise 25, set " + which + " in a product of a product");
            Twins twins = new Twins(CHECKS);
            twins.loadSphere(1);
            twins.save();
            load(twins, which);
            twins.product();
            twins.product();
            twins.lookAround();
            twins.product();
            twins.loadSimplex(1);
            twins.product();
            twins.product();
            twins.lookAround();
        }
    }

    private static void productAtTheLimit() {
        CHECKS.part("promise 25, 48 cells and 49");
        SimplicialSet x = new SimplicialSet();
        for (int vertex = 0; vertex < 6; vertex++) {
            x.addVertex();
        }
        x.save();
        x.addVertex();
        x.addVertex();
        due("8 times 6 vertices", x.product(), 48);
        due("cellCount(0)", x.cellCount(0), 48);
        x.clear();
        for (int vertex = 0; vertex < 7; vertex++) {
            x.addVertex();
        }
        x.save();
        due("7 times 7 vertices", x.product(), SimplicialSet.FULL);
        due("cellCount(0) after it", x.cellCount(0), 7);
    }
}
