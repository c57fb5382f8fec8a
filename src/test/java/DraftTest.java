/**
 * The draft: begun anew over an old one, a face set a second time, kept by endCell's errors, and removed by
 * endCell, clear, loadSimplex, loadSphere and product alone.
 */
public final class DraftTest {
    private static final Checks CHECKS = new Checks();

    public static void main(String[] args) {
        for (int old = 1; old <= 4; old++) {
            for (int m = 1; m <= 4; m++) {
                begunAnew(old, m);
            }
        }
        atMostOne();
        for (int m = 1; m <= 4; m++) {
            faceSetASecondTime(m);
        }
        faceSetASecondTimeWrongly();
        keptByIncomplete();
        keptByIdentity();
        keptByFull();
        for (String remover : new String[] {"endCell", "clear", "loadSimplex", "loadSphere", "product"}) {
            removedBy(remover);
        }
        removedByAProductWithoutCells();
        keptByOtherCalls();
        keptByRefusedCalls();
        noCellYet();
        facesOverYoungerCells();
        CHECKS.finish();
    }

    private static Calls triangle() {
        return new Calls(CHECKS).due(7, "loadSimplex", 2);
    }

    /** The old draft is whole, with all faces at the vertex 1; the new one gets its faces at the vertex 0. */
    private static void begunAnew(int old, int m) {
        CHECKS.part("a draft of dimension " + m + " begun over one of dimension " + old);
        Calls x = Calls.withVertices(CHECKS, 2).due(1, "beginCell", old);
        for (int k = 0; k <= old; k++) {
            x.due(1, "setFace", k, 1, 0);
        }
        x.due(1, "beginCell", m);
        for (int k = m; k >= 0; k--) {
            x.due(SimplicialSet.INCOMPLETE, "endCell").due(SimplicialSet.BAD_INDEX, "setFace", m + 1, 0, 0);
            x.due(1, "setFace", k, 0, 0);
        }
        x.due(2, "endCell").due(m, "dimension", 2).due(1, "cellCount", m).due(SimplicialSet.NO_DRAFT, "endCell");
        for (int k = 0; k <= m; k++) {
            x.due(0, "faceCell", 2, m, (1 << m) - 1, k);
        }
    }

    private static void atMostOne() {
        CHECKS.part("there is at most one draft");
        Calls x = Calls.withVertices(CHECKS, 1).due(1, "beginCell", 1).faces(0, 0, 0, 0).due(1, "beginCell", 2);
        x.faces(0, 0, 0, 0, 0, 0).due(1, "endCell").due(2, "dimension", 1).due(SimplicialSet.NO_DRAFT, "endCell");
        x.due(0, "cellCount", 1).due(SimplicialSet.NO_DRAFT, "setFace", 0, 0, 0);
    }

    /** The cell m - 1 is over the vertex alone; each face is first set over the vertex and then to that cell. */
    private static void faceSetASecondTime(int m) {
        for (int again = 0; again <= m; again++) {
            CHECKS.part("face " + again + " of a draft of dimension " + m + " set a second time");
            Calls x = Calls.oneOfEach(CHECKS).vertices(1).due(1, "beginCell", m).faces(new int[2 * m + 2]);
            // A face of a draft of dimension 1 is a vertex: number 5 is the other one.
            int cell = m == 1 ? 5 : m - 1;
            int mask = (1 << (m - 1)) - 1;
            x.due(1, "setFace", again, cell, mask).due(6, "endCell");
            for (int k = 0; k <= m; k++) {
                x.due(k == again ? cell : 0, "faceCell", 6, m, (1 << m) - 1, k);
                x.due(k == again ? mask : 0, "faceMask", 6, m, (1 << m) - 1, k);
            }
        }
    }

    private static void faceSetASecondTimeWrongly() {
        CHECKS.part("a face stays if setting it a second time is refused");
        Calls x = triangle().due(1, "beginCell", 2).faces(5, 1, 4, 1, 3, 1);
        x.due(SimplicialSet.BAD_MASK, "setFace", 0, 3, 0).due(SimplicialSet.BAD_MASK, "setFace", 1, 3, 2);
        x.due(SimplicialSet.NO_SUCH_CELL, "setFace", 2, 7, 1).due(SimplicialSet.BAD_INDEX, "setFace", 3, 3, 1);
        x.due(SimplicialSet.BAD_INDEX, "setFace", -1, 3, 1).due(7, "endCell");
        x.due(5, "faceCell", 7, 2, 3, 0).due(4, "faceCell", 7, 2, 3, 1).due(3, "faceCell", 7, 2, 3, 2);
    }

    private static void keptByIncomplete() {
        for (int missing = 0; missing <= 2; missing++) {
            CHECKS.part("the draft stays after INCOMPLETE, face " + missing + " missing");
            int[] edges = {5, 4, 3};
            Calls x = triangle().due(1, "beginCell", 2);
            for (int k = 0; k <= 2; k++) {
                if (k != missing) {
                    x.due(1, "setFace", k, edges[k], 1);
                }
            }
            x.due(SimplicialSet.INCOMPLETE, "endCell").due(SimplicialSet.INCOMPLETE, "endCell").due(1, "cellCount", 2);
            x.due(1, "setFace", missing, edges[missing], 1).due(7, "endCell").due(2, "cellCount", 2);
            for (int k = 0; k <= 2; k++) {
                x.due(edges[k], "faceCell", 7, 2, 3, k);
            }
        }
    }

    private static void keptByIdentity() {
        CHECKS.part("the draft stays after IDENTITY");
        Calls x = triangle().due(1, "beginCell", 2).faces(5, 1, 3, 1, 3, 1);
        x.due(SimplicialSet.IDENTITY, "endCell").due(SimplicialSet.IDENTITY, "endCell").due(1, "cellCount", 2);
        x.due(1, "setFace", 1, 4, 1).due(7, "endCell").due(2, "cellCount", 2);
        x.due(5, "faceCell", 7, 2, 3, 0).due(4, "faceCell", 7, 2, 3, 1).due(3, "faceCell", 7, 2, 3, 2);
    }

    private static void keptByFull() {
        CHECKS.part("the draft stays after FULL");
        Calls x = triangle().vertices(41).due(1, "beginCell", 2).faces(5, 1, 4, 1, 3, 1);
        x.due(SimplicialSet.FULL, "endCell").due(SimplicialSet.FULL, "endCell").due(1, "cellCount", 2);
        x.due(1, "setFace", 1, 3, 1).due(SimplicialSet.IDENTITY, "endCell").due(1, "setFace", 1, 4, 1);
        x.due(SimplicialSet.FULL, "endCell").due(SimplicialSet.BAD_INDEX, "setFace", 3, 0, 0);
    }

    private static void remove(Calls x, String remover) {
        switch (remover) {
            case "endCell" -> x.due(2, "endCell");
            case "clear" -> x.due(2, "clear").due(0, "addVertex");
            case "loadSimplex" -> x.due(1, "loadSimplex", 0);
            case "loadSphere" -> x.due(2, "loadSphere", 1);
            default -> x.due(6, "product");
        }
    }

    /** The circle is present and saved, with a whole draft of dimension 2, whose faces must not come back. */
    private static void removedBy(String remover) {
        CHECKS.part("the draft is removed by " + remover);
        for (int m = 1; m <= 4; m++) {
            Calls x = new Calls(CHECKS).due(2, "loadSphere", 1).due(2, "save")
                    .due(1, "beginCell", 2).faces(0, 0, 0, 0, 0, 0);
            remove(x, remover);
            x.due(SimplicialSet.NO_DRAFT, "endCell").due(SimplicialSet.NO_DRAFT, "setFace", 0, 0, 0);
            x.due(SimplicialSet.NO_DRAFT, "setFace", -1, -1, -1);
            x.due(1, "beginCell", m).due(SimplicialSet.INCOMPLETE, "endCell").due(1, "setFace", 0, 0, 0);
            x.due(SimplicialSet.INCOMPLETE, "endCell");
        }
    }

    private static void removedByAProductWithoutCells() {
        CHECKS.part("the draft is removed by a product without cells");
        triangle().due(1, "beginCell", 1).faces(0, 0, 1, 0).due(0, "product").due(SimplicialSet.NO_DRAFT, "endCell");
        CHECKS.part("the draft is removed by clear in a set without cells");
        new Calls(CHECKS).due(1, "beginCell", 1).due(0, "clear").due(SimplicialSet.NO_DRAFT, "endCell");
    }

    private static void keptByOtherCalls() {
        CHECKS.part("the draft stays beside calls that do not speak of it");
        Calls x = triangle().due(1, "beginCell", 2).due(1, "setFace", 0, 5, 1).due(1, "setFace", 2, 3, 1);
        x.due(7, "addVertex").due(8, "save").due(3, "cellCount", 1).due(2, "dimension", 6)
                .due(5, "faceCell", 6, 2, 3, 0);
        x.due(1, "faceMask", 6, 2, 3, 0).due(6, "degeneracyMask", 6, 2, 3, 0).due(2, "vertex", 6, 2, 3, 2);
        x.due(4, "simplexCount", 0).due(2, "eulerCharacteristic").due(2, "partCount").due(1, "incidence", 6, 5);
        x.due(2, "betti", 0).due(0, "torsionCount", 1).due(SimplicialSet.NONE, "torsion", 1, 0);
        x.due(11, "hornCount", 1).due(0, "unfilledCount", 1);
        x.due(SimplicialSet.INCOMPLETE, "endCell").due(1, "setFace", 1, 4, 1).due(8, "endCell");
        x.due(5, "faceCell", 8, 2, 3, 0).due(4, "faceCell", 8, 2, 3, 1).due(3, "faceCell", 8, 2, 3, 2);
    }

    private static void keptByRefusedCalls() {
        CHECKS.part("the draft stays after refused calls");
        Calls x = triangle().due(7, "save").due(1, "beginCell", 2).faces(5, 1, 4, 1, 3, 1);
        x.due(SimplicialSet.BAD_DIMENSION, "beginCell", 0).due(SimplicialSet.BAD_DIMENSION, "beginCell", 5);
        x.due(SimplicialSet.BAD_DIMENSION, "loadSimplex", -1).due(SimplicialSet.BAD_DIMENSION, "loadSimplex", 5);
        x.due(SimplicialSet.BAD_DIMENSION, "loadSphere", 0).due(SimplicialSet.BAD_DIMENSION, "loadSphere", 5);
        x.due(SimplicialSet.FULL, "product").due(7, "endCell").due(5, "faceCell", 7, 2, 3, 0);
        CHECKS.part("the draft stays after a product of too great a dimension");
        x = new Calls(CHECKS).due(2, "loadSphere", 3).due(2, "save").due(7, "loadSimplex", 2)
                .due(1, "beginCell", 1).faces(0, 0, 1, 0);
        x.due(SimplicialSet.BAD_DIMENSION, "product").due(7, "endCell").due(0, "faceCell", 7, 1, 1, 0);
        CHECKS.part("the draft stays after addVertex in a full set");
        x = Calls.withVertices(CHECKS, 48).due(1, "beginCell", 1).faces(0, 0, 47, 0)
                .due(SimplicialSet.FULL, "addVertex");
        x.due(SimplicialSet.FULL, "endCell");
    }

    private static void noCellYet() {
        CHECKS.part("the draft is no cell before it is stored");
        Calls x = Calls.withVertices(CHECKS, 2).due(1, "beginCell", 1).faces(0, 0, 1, 0);
        x.due(0, "cellCount", 1).due(SimplicialSet.NO_SUCH_CELL, "dimension", 2).due(2, "partCount").due(2, "save");
        x.due(2, "simplexCount", 1).due(2, "eulerCharacteristic").due(2, "betti", 0).due(2, "hornCount", 0);
        x.due(SimplicialSet.NO_SUCH_CELL, "incidence", 2, 0).due(2, "clear");
        CHECKS.part("the draft is not saved");
        x = Calls.withVertices(CHECKS, 2).due(1, "beginCell", 1).faces(0, 0, 1, 0).due(2, "save").due(2, "endCell");
        x.due(1, "loadSimplex", 0).due(2, "product").due(0, "cellCount", 1);
    }

    private static void facesOverYoungerCells() {
        CHECKS.part("a draft takes faces over cells that were stored after it was begun");
        Calls x = new Calls(CHECKS).due(1, "beginCell", 1).due(SimplicialSet.NO_SUCH_CELL, "setFace", 0, 0, 0);
        x.due(0, "addVertex").due(1, "setFace", 0, 0, 0).due(SimplicialSet.NO_SUCH_CELL, "setFace", 1, 1, 0);
        x.due(1, "addVertex").due(1, "setFace", 1, 1, 0).due(2, "endCell").due(1, "faceCell", 2, 1, 1, 1);
    }
}
