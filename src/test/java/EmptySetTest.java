/**
 * A set without cells: every call of the document on it, whichever way it came to be; a saved set without
 * cells in product; a new object's draft.
 */
public final class EmptySetTest {
    private static final Checks CHECKS = new Checks();
    private static final int[] SOME = {Integer.MIN_VALUE, -1, 0, 1, 7, 48, Integer.MAX_VALUE};

    /** The ways to a set without cells. */
    private enum Way { NEW, CLEARED, PRODUCT_WITH_NOTHING, PRODUCT_OF_NOTHING, REFUSED_CALLS_ALONE }

    public static void main(String[] args) {
        for (Way way : Way.values()) {
            CHECKS.part("no cells, " + way);
            cellsAndDraft(way);
            simplices(empty(way));
            invariants(empty(way));
            horns(empty(way));
            buildingOn(way);
        }
        savedSetWithoutCells();
        presentSetWithoutCells();
        savingNothing();
        newDraft();
        draftWithoutCells();
        CHECKS.finish();
    }

    private static Calls empty(Way way) {
        Calls x = new Calls(CHECKS);
        switch (way) {
            case NEW -> { }
            case CLEARED -> x.due(7, "loadSimplex", 2).due(1, "beginCell", 2).due(1, "setFace", 0, 3, 1).due(7, "clear");
            case PRODUCT_WITH_NOTHING -> x.due(31, "loadSimplex", 4).due(1, "beginCell", 1).due(0, "product");
            case PRODUCT_OF_NOTHING -> x.due(2, "loadSphere", 4).due(2, "save").due(2, "clear").due(1, "beginCell", 1)
                    .due(0, "product");
            case REFUSED_CALLS_ALONE -> x.due(SimplicialSet.BAD_DIMENSION, "loadSimplex", 5)
                    .due(SimplicialSet.BAD_DIMENSION, "loadSphere", 0).due(SimplicialSet.BAD_DIMENSION, "beginCell", 0);
        }
        return x;
    }

    private static void cellsAndDraft(Way way) {
        Calls x = empty(way);
        x.due(SimplicialSet.NO_DRAFT, "endCell").due(SimplicialSet.NO_DRAFT, "setFace", 0, 0, 0);
        for (int m = 0; m <= 4; m++) {
            x.due(0, "cellCount", m);
        }
        for (int m : Edges.outside(0, 4)) {
            x.due(SimplicialSet.BAD_DIMENSION, "cellCount", m);
        }
        for (int cell : SOME) {
            x.due(SimplicialSet.NO_SUCH_CELL, "dimension", cell);
        }
        x.due(0, "clear").due(0, "clear");
    }

    /** There is no cell, so that NO_SUCH_CELL comes before all else. */
    private static void simplices(Calls x) {
        for (String name : new String[] {"faceCell", "faceMask", "degeneracyMask", "vertex"}) {
            for (int some : SOME) {
                x.due(SimplicialSet.NO_SUCH_CELL, name, some, 1, 0, 0);
                x.due(SimplicialSet.NO_SUCH_CELL, name, 0, some, 0, 0);
                x.due(SimplicialSet.NO_SUCH_CELL, name, 0, 1, some, 0);
                x.due(SimplicialSet.NO_SUCH_CELL, name, 0, 1, 0, some);
            }
        }
        for (int n = 0; n <= 6; n++) {
            x.due(0, "simplexCount", n);
        }
        for (int n : Edges.outside(0, 6)) {
            x.due(SimplicialSet.BAD_DIMENSION, "simplexCount", n);
        }
    }

    private static void invariants(Calls x) {
        x.due(0, "eulerCharacteristic").due(0, "partCount");
        for (int some : SOME) {
            x.due(SimplicialSet.NO_SUCH_CELL, "incidence", some, 0)
                    .due(SimplicialSet.NO_SUCH_CELL, "incidence", 0, some);
        }
        for (int n = 0; n <= 4; n++) {
            x.due(0, "betti", n).due(0, "torsionCount", n);
            for (int k : SOME) {
                x.due(k < 0 ? SimplicialSet.BAD_INDEX : SimplicialSet.NONE, "torsion", n, k);
            }
        }
        for (int n : Edges.outside(0, 4)) {
            x.due(SimplicialSet.BAD_DIMENSION, "betti", n).due(SimplicialSet.BAD_DIMENSION, "torsionCount", n);
            for (int k : SOME) {
                x.due(SimplicialSet.BAD_DIMENSION, "torsion", n, k);
            }
        }
    }

    private static void horns(Calls x) {
        for (int k = 0; k <= 2; k++) {
            x.due(0, "hornCount", k).due(0, "unfilledCount", k);
        }
        for (int k : Edges.outside(0, 2)) {
            x.due(SimplicialSet.BAD_INDEX, "hornCount", k).due(SimplicialSet.BAD_INDEX, "unfilledCount", k);
        }
    }

    private static void buildingOn(Way way) {
        empty(way).due(0, "addVertex").due(1, "addVertex").due(2, "cellCount", 0);
        empty(way).due(15, "loadSimplex", 3).due(4, "cellCount", 0);
        empty(way).due(2, "loadSphere", 2).due(2, "dimension", 1);
        empty(way).due(0, "save").due(0, "product").due(0, "addVertex").due(0, "product");
        empty(way).due(0, "product").due(0, "product").due(0, "cellCount", 0).due(0, "addVertex");
        empty(way).due(1, "beginCell", 4).due(SimplicialSet.INCOMPLETE, "endCell").due(0, "product")
                .due(SimplicialSet.NO_DRAFT, "endCell");
    }

    private static void savedSetWithoutCells() {
        CHECKS.part("product with a saved set without cells");
        for (int n = 0; n <= 4; n++) {
            // Nothing saved counts as dimension 0, so that no dimension is too great.
            new Calls(CHECKS).due((1 << (n + 1)) - 1, "loadSimplex", n).due(0, "product").due(0, "cellCount", n)
                    .due(SimplicialSet.NO_SUCH_CELL, "dimension", 0);
        }
        Calls.withVertices(CHECKS, 48).due(0, "product").due(0, "cellCount", 0).due(0, "addVertex");
        CHECKS.part("product with an empty set saved over another one");
        new Calls(CHECKS).due(2, "loadSphere", 4).due(2, "save").due(2, "clear").due(0, "save")
                .due(31, "loadSimplex", 4)
                .due(0, "product").due(0, "partCount");
    }

    private static void presentSetWithoutCells() {
        CHECKS.part("product of a set without cells with a saved one");
        for (int n = 1; n <= 4; n++) {
            Calls x = new Calls(CHECKS);
            x.due(2, "loadSphere", n).due(2, "save").due(2, "clear").due(0, "product").due(0, "cellCount", 0);
            // The saved set stays.
            x.due(0, "addVertex").due(2, "product").due(n, "dimension", 1);
        }
        Calls.withVertices(CHECKS, 48).due(48, "save").due(48, "clear").due(0, "product").due(0, "addVertex")
                .due(48, "product");
    }

    private static void savingNothing() {
        CHECKS.part("save of a set without cells");
        new Calls(CHECKS).due(0, "save").due(0, "save").due(0, "product");
        new Calls(CHECKS).due(2, "loadSphere", 1).due(2, "save").due(2, "clear").due(0, "save").due(0, "addVertex")
                .due(0, "product");
    }

    private static void newDraft() {
        CHECKS.part("a new object has no draft");
        new Calls(CHECKS).due(SimplicialSet.NO_DRAFT, "endCell");
        new Calls(CHECKS).due(SimplicialSet.NO_DRAFT, "setFace", 0, 0, 0);
        new Calls(CHECKS).due(0, "addVertex").due(SimplicialSet.NO_DRAFT, "setFace", 0, 0, 0)
                .due(SimplicialSet.NO_DRAFT, "endCell");
        new Calls(CHECKS).due(SimplicialSet.BAD_DIMENSION, "beginCell", 0).due(SimplicialSet.NO_DRAFT, "endCell");
        new Calls(CHECKS).due(SimplicialSet.BAD_DIMENSION, "beginCell", 5)
                .due(SimplicialSet.NO_DRAFT, "setFace", 0, 0, 0);
    }

    /** A draft can be begun in a set without cells; it has no cell to take faces from until there is a vertex. */
    private static void draftWithoutCells() {
        CHECKS.part("a draft in a set without cells");
        for (int m = 1; m <= 4; m++) {
            Calls x = new Calls(CHECKS);
            x.due(1, "beginCell", m).due(SimplicialSet.INCOMPLETE, "endCell");
            x.due(SimplicialSet.NO_SUCH_CELL, "setFace", 0, 0, 0).due(SimplicialSet.NO_SUCH_CELL, "setFace", m, 0, -1);
            x.due(SimplicialSet.BAD_INDEX, "setFace", m + 1, 0, 0).due(SimplicialSet.BAD_INDEX, "setFace", -1, 0, 0);
            x.due(SimplicialSet.INCOMPLETE, "endCell").due(0, "addVertex").faces(new int[2 * m + 2]).due(1, "endCell");
            x.due(m, "dimension", 1);
        }
    }
}
