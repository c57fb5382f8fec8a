/** Every @return line with several errors: calls to which two or more apply report the first of them. */
public final class ErrorOrderTest {
    private static final Checks CHECKS = new Checks();
    private static final int LEAST = Integer.MIN_VALUE;
    private static final int GREATEST = Integer.MAX_VALUE;
    private static final String[] OF_SIMPLICES = {"faceCell", "faceMask", "degeneracyMask", "vertex"};
    private static final int[] LEAST_N = {1, 1, 0, 0};
    private static final int[] GREATEST_N = {6, 6, 5, 6};

    public static void main(String[] args) {
        for (int at = 0; at < OF_SIMPLICES.length; at++) {
            CHECKS.part(OF_SIMPLICES[at] + ": NO_SUCH_CELL; BAD_DIMENSION; BAD_MASK; BAD_INDEX");
            errorsOfASimplex(OF_SIMPLICES[at], LEAST_N[at] - 1, GREATEST_N[at] + 1);
        }
        errorsOfSetFace();
        setFaceWithoutADraft();
        endCellWithoutADraft();
        endCellOfAnIncompleteDraft();
        endCellOfAWrongDraft();
        errorsOfTorsion();
        errorsOfProduct();
        errorsOfIncidence();
        CHECKS.finish();
    }

    /** Each argument good, or bad in several ways, in all combinations. The good simplex is 0 0 1 2 over cell 6. */
    private static void errorsOfASimplex(String name, int below, int above) {
        int[] cells = {6, -1, 7, 48, LEAST, GREATEST};
        int[] dimensions = {3, below, above, 32, LEAST, GREATEST};
        int[] masks = {6, 0, 1, 7, 9, 64, -1, LEAST, LEAST + 6, GREATEST};
        int[] places = {2, -1, 8, LEAST, GREATEST};
        for (int cell : cells) {
            for (int n : dimensions) {
                Calls x = new Calls(CHECKS);
                x.due(7, "loadSimplex", 2);
                for (int mask : masks) {
                    for (int place : places) {
                        int error = cell != 6 ? SimplicialSet.NO_SUCH_CELL
                                : n != 3 ? SimplicialSet.BAD_DIMENSION
                                : mask != 6 ? SimplicialSet.BAD_MASK
                                : place != 2 ? SimplicialSet.BAD_INDEX : 0;
                        if (error == 0) {
                            x.allowed(name, cell, n, mask, place);
                        } else {
                            x.due(error, name, cell, n, mask, place);
                        }
                    }
                }
            }
        }
    }

    private static void errorsOfSetFace() {
        CHECKS.part("setFace: NO_DRAFT; BAD_INDEX; NO_SUCH_CELL; BAD_MASK");
        int[] numbers = {1, -1, 4, LEAST, GREATEST};
        int[] cells = {5, -1, 7, 48, LEAST, GREATEST};
        int[] masks = {2, 0, 3, 4, -1, LEAST, LEAST + 2, GREATEST};
        for (int k : numbers) {
            Calls x = new Calls(CHECKS);
            x.due(7, "loadSimplex", 2).due(1, "beginCell", 3);
            for (int cell : cells) {
                for (int mask : masks) {
                    int due = k != 1 ? SimplicialSet.BAD_INDEX
                            : cell != 5 ? SimplicialSet.NO_SUCH_CELL
                            : mask != 2 ? SimplicialSet.BAD_MASK : 1;
                    x.due(due, "setFace", k, cell, mask);
                }
            }
        }
    }

    private static void setFaceWithoutADraft() {
        CHECKS.part("setFace: NO_DRAFT before all others");
        int[] some = {LEAST, -1, 0, 1, 5, 48, GREATEST};
        for (int k : some) {
            Calls x = Calls.withVertices(CHECKS, 1);
            for (int cell : some) {
                for (int mask : some) {
                    x.due(SimplicialSet.NO_DRAFT, "setFace", k, cell, mask);
                }
            }
        }
    }

    /** 48 cells: the vertices 0 and 1, the edge 2 from 0 to 1, the loop 3 at 0, and more vertices. */
    private static Calls fullSet() {
        Calls x = Calls.withVertices(CHECKS, 2);
        x.cell(1, 0, 0, 0);
        x.cell(0, 0, 0, 0);
        return x.vertices(44).due(SimplicialSet.FULL, "addVertex");
    }

    private static void endCellWithoutADraft() {
        CHECKS.part("endCell: NO_DRAFT before FULL");
        fullSet().due(SimplicialSet.NO_DRAFT, "endCell");
    }

    private static void endCellOfAnIncompleteDraft() {
        CHECKS.part("endCell: INCOMPLETE before IDENTITY");
        Calls x = new Calls(CHECKS);
        x.due(7, "loadSimplex", 2).due(1, "beginCell", 2);
        // Faces 0 and 1 end at different vertices, whatever face 2 will be.
        x.due(1, "setFace", 0, 5, 1).due(1, "setFace", 1, 3, 1);
        x.due(SimplicialSet.INCOMPLETE, "endCell");
        CHECKS.part("endCell: INCOMPLETE before FULL");
        for (int m = 1; m <= 4; m++) {
            x = fullSet().due(1, "beginCell", m);
            for (int k = 0; k <= m; k++) {
                x.due(SimplicialSet.INCOMPLETE, "endCell").due(1, "setFace", k, 0, 0);
            }
            x.due(SimplicialSet.FULL, "endCell");
        }
        CHECKS.part("endCell: INCOMPLETE before IDENTITY and FULL");
        x = fullSet().due(1, "beginCell", 2).faces(2, 1, 3, 1);
        x.due(SimplicialSet.INCOMPLETE, "endCell");
    }

    private static void endCellOfAWrongDraft() {
        CHECKS.part("endCell: IDENTITY before FULL");
        fullSet().due(1, "beginCell", 2).faces(2, 1, 3, 1, 2, 1).due(SimplicialSet.IDENTITY, "endCell")
                .faces(2, 1, 2, 1, 3, 1).due(SimplicialSet.FULL, "endCell");
    }

    private static void errorsOfTorsion() {
        CHECKS.part("torsion: BAD_DIMENSION; BAD_INDEX; NONE");
        Calls projectivePlane = Calls.withVertices(CHECKS, 1);
        projectivePlane.sphere(1);
        CHECKS.due("endCell()", projectivePlane.cell(1, 1, 0, 0, 1, 1), 2);
        for (int k : new int[] {LEAST, -1, 0, 1, GREATEST}) {
            for (int n : Edges.outside(0, 4)) {
                projectivePlane.due(SimplicialSet.BAD_DIMENSION, "torsion", n, k);
            }
            for (int n = 0; n <= 4; n++) {
                int none = n == 1 && k == 0 ? 2 : SimplicialSet.NONE;
                projectivePlane.due(k < 0 ? SimplicialSet.BAD_INDEX : none, "torsion", n, k);
            }
        }
    }

    private static void errorsOfProduct() {
        CHECKS.part("product: BAD_DIMENSION; FULL");
        // 31 * 31 pairs of cells and more, of dimension 8
        new Calls(CHECKS).due(31, "loadSimplex", 4).due(31, "save").due(SimplicialSet.BAD_DIMENSION, "product");
        // 15 * 7 pairs of cells and more, of dimension 5
        new Calls(CHECKS).due(7, "loadSimplex", 2).due(7, "save").due(15, "loadSimplex", 3)
                .due(SimplicialSet.BAD_DIMENSION, "product");
        new Calls(CHECKS).due(15, "loadSimplex", 3).due(15, "save").due(7, "loadSimplex", 2)
                .due(SimplicialSet.BAD_DIMENSION, "product");
        // 15 * 3 pairs of cells and more, of dimension 4
        new Calls(CHECKS).due(3, "loadSimplex", 1).due(3, "save").due(15, "loadSimplex", 3)
                .due(SimplicialSet.FULL, "product");
        // A full set of dimension 1 with a set of dimension 4
        fullSetWithSaved(4).due(SimplicialSet.BAD_DIMENSION, "product");
        fullSetWithSaved(3).due(SimplicialSet.FULL, "product");
    }

    private static Calls fullSetWithSaved(int n) {
        Calls x = new Calls(CHECKS);
        x.due(2, "loadSphere", n).due(2, "save").due(3, "loadSimplex", 1);
        return x.vertices(45).due(SimplicialSet.FULL, "addVertex");
    }

    private static void errorsOfIncidence() {
        CHECKS.part("incidence: NO_SUCH_CELL if one of both does not exist, whatever the other one is");
        Calls x = new Calls(CHECKS);
        x.due(7, "loadSimplex", 2);
        for (int none : new int[] {LEAST, -1, 7, 48, GREATEST}) {
            for (int cell = 0; cell < 7; cell++) {
                x.due(SimplicialSet.NO_SUCH_CELL, "incidence", cell, none);
                x.due(SimplicialSet.NO_SUCH_CELL, "incidence", none, cell);
            }
            x.due(SimplicialSet.NO_SUCH_CELL, "incidence", none, none);
        }
    }
}
