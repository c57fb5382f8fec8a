import java.util.Arrays;

/**
 * The sentences of the document's Description that name a boundary case and that no test of a single call
 * covers: identities one by one, dimensions 0, 5 and 4 of homology, numbers of cells, the 512th call.
 */
public final class DescriptionTest {
    private static final Checks CHECKS = new Checks();

    public static void main(String[] args) {
        numberedInTheOrderOfStoring();
        degenerateOnlyAboveItsDimension();
        facesAtTheEndsOfASequence();
        degeneraciesAtTheEndsOfASequence();
        noIdentityOfEdges();
        eachIdentityOfTriangles();
        eachIdentityOfTetrahedra();
        eachIdentityOfDimensionFour();
        identitiesCompareMasks();
        rankInDimensionZero();
        rankInDimensionFive();
        degenerateFacesDoNotCount();
        degenerateHorns();
        nothingSavedAtFirst();
        savedIsACopy();
        greatestDimensionsOfProducts();
        the512thCall();
        CHECKS.finish();
    }

    private static void numberedInTheOrderOfStoring() {
        CHECKS.part("cells are numbered from 0 in the order in which they were stored, of whatever dimension");
        Calls x = Calls.withVertices(CHECKS, 1);
        CHECKS.due("a cell of dimension 4", x.sphere(4), 1);
        x.due(2, "addVertex");
        CHECKS.due("a cell of dimension 1", x.sphere(1), 3);
        x.due(4, "dimension", 1).due(0, "dimension", 2).due(1, "dimension", 3)
                .due(SimplicialSet.NO_SUCH_CELL, "dimension", 4);
    }

    private static void degenerateOnlyAboveItsDimension() {
        CHECKS.part("there is no simplex below the dimension of its cell, one of its dimension, and more above it");
        int[][] counts = {{1, 1, 1, 1, 1, 1, 1}, {0, 1, 2, 3, 4, 5, 6}, {0, 0, 1, 3, 6, 10, 15}, {0, 0, 0, 1, 4, 10, 20},
            {0, 0, 0, 0, 1, 5, 15}};
        for (int m = 1; m <= 4; m++) {
            Calls x = new Calls(CHECKS).due(2, "loadSphere", m);
            for (int n = 0; n <= 6; n++) {
                x.due(1 + counts[m][n], "simplexCount", n);
            }
        }
        Calls x = Calls.withVertices(CHECKS, 1);
        for (int n = 0; n <= 6; n++) {
            x.due(counts[0][n], "simplexCount", n);
        }
    }

    private static void facesAtTheEndsOfASequence() {
        CHECKS.part("faces 0 and n, where the number at the end is repeated and where it is missing then");
        Calls x = new Calls(CHECKS).due(7, "loadSimplex", 2);
        // 0 1 2: the ends are missing then
        x.due(5, "faceCell", 6, 2, 3, 0).due(1, "faceMask", 6, 2, 3, 0).due(3, "faceCell", 6, 2, 3, 2)
                .due(1, "faceMask", 6, 2, 3, 2);
        // 0 0 1 2 2: both ends are repeated
        x.due(6, "faceCell", 6, 4, 6, 0).due(3, "faceMask", 6, 4, 6, 0).due(6, "faceCell", 6, 4, 6, 4)
                .due(6, "faceMask", 6, 4, 6, 4);
        // 0 1 1 2: the middle is repeated, the ends are not
        x.due(5, "faceCell", 6, 3, 5, 0).due(2, "faceMask", 6, 3, 5, 0).due(3, "faceCell", 6, 3, 5, 3)
                .due(1, "faceMask", 6, 3, 5, 3);
        x.due(6, "faceCell", 6, 3, 5, 1).due(3, "faceMask", 6, 3, 5, 1).due(6, "faceCell", 6, 3, 5, 2)
                .due(3, "faceMask", 6, 3, 5, 2);
        CHECKS.part("faces of dimension 0");
        x.due(1, "faceCell", 3, 1, 1, 0).due(0, "faceCell", 3, 1, 1, 1).due(0, "faceMask", 3, 1, 1, 0);
        x.due(2, "faceCell", 2, 1, 0, 0).due(2, "faceCell", 2, 1, 0, 1).due(0, "faceMask", 2, 1, 0, 1);
    }

    private static void degeneraciesAtTheEndsOfASequence() {
        CHECKS.part("degeneracies 0 and n");
        Calls x = new Calls(CHECKS).due(7, "loadSimplex", 2);
        x.due(0, "degeneracyMask", 0, 0, 0, 0).due(6, "degeneracyMask", 6, 2, 3, 0)
                .due(3, "degeneracyMask", 6, 2, 3, 2);
        // 0 0 0 0 1 2 and 0 1 2 2 2 2 become the last masks of dimension 6 and stay the first ones
        x.due(48, "degeneracyMask", 6, 5, 24, 0).due(24, "degeneracyMask", 6, 5, 24, 5);
        x.due(6, "degeneracyMask", 6, 5, 3, 0).due(3, "degeneracyMask", 6, 5, 3, 5);
    }

    private static void noIdentityOfEdges() {
        CHECKS.part("a cell of dimension 1 has no identities");
        Calls x = Calls.withVertices(CHECKS, 3);
        int edge = 3;
        for (int face0 = 0; face0 < 3; face0++) {
            for (int face1 = 0; face1 < 3; face1++) {
                CHECKS.due("endCell()", x.cell(face0, 0, face1, 0), edge);
                edge++;
            }
        }
    }

    /** Of all faces alike, one is changed so that its own face at one place, and no other, is another one. */
    private static void eachIdentity(Calls x, int m, int same, int[] otherAt, int mask) {
        int[] faces = new int[2 * m + 2];
        for (int changed = 0; changed <= m; changed++) {
            for (int place = 0; place < m; place++) {
                for (int k = 0; k <= m; k++) {
                    faces[2 * k] = k == changed ? otherAt[place] : same;
                    faces[2 * k + 1] = mask;
                }
                int i = Math.min(place, changed);
                int j = place < changed ? changed : place + 1;
                CHECKS.part("dimension " + m + ", identity " + i + " " + j + ", broken by face " + changed);
                CHECKS.due("endCell()", x.cell(faces), SimplicialSet.IDENTITY);
            }
        }
        CHECKS.part("dimension " + m + ", all identities hold");
        Arrays.setAll(faces, at -> at % 2 == 0 ? same : mask);
        CHECKS.holds("endCell()", x.cell(faces) > 0);
    }

    private static void eachIdentityOfTriangles() {
        Calls x = Calls.withVertices(CHECKS, 2);
        CHECKS.due("loop", x.cell(0, 0, 0, 0), 2);
        CHECKS.due("face 0 is another vertex", x.cell(1, 0, 0, 0), 3);
        CHECKS.due("face 1 is another vertex", x.cell(0, 0, 1, 0), 4);
        eachIdentity(x, 2, 2, new int[] {3, 4}, 1);
    }

    private static void eachIdentityOfTetrahedra() {
        Calls x = Calls.withVertices(CHECKS, 1);
        x.sphere(1);
        x.sphere(1);
        CHECKS.due("triangle", x.cell(1, 1, 1, 1, 1, 1), 3);
        CHECKS.due("face 0 is another loop", x.cell(2, 1, 1, 1, 1, 1), 4);
        CHECKS.due("face 1 is another loop", x.cell(1, 1, 2, 1, 1, 1), 5);
        CHECKS.due("face 2 is another loop", x.cell(1, 1, 1, 1, 2, 1), 6);
        eachIdentity(x, 3, 3, new int[] {4, 5, 6}, 3);
    }

    private static void eachIdentityOfDimensionFour() {
        Calls x = Calls.withVertices(CHECKS, 1);
        x.sphere(2);
        x.sphere(2);
        CHECKS.due("tetrahedron", x.cell(1, 3, 1, 3, 1, 3, 1, 3), 3);
        CHECKS.due("face 0 is another triangle", x.cell(2, 3, 1, 3, 1, 3, 1, 3), 4);
        CHECKS.due("face 1 is another triangle", x.cell(1, 3, 2, 3, 1, 3, 1, 3), 5);
        CHECKS.due("face 2 is another triangle", x.cell(1, 3, 1, 3, 2, 3, 1, 3), 6);
        CHECKS.due("face 3 is another triangle", x.cell(1, 3, 1, 3, 1, 3, 2, 3), 7);
        eachIdentity(x, 4, 3, new int[] {4, 5, 6, 7}, 7);
    }

    /** Over a loop, the simplices of dimension 2 differ by their masks alone: all drafts of dimension 4 with such faces. */
    private static void identitiesCompareMasks() {
        int[] cells = {0, 1, 1, 1};
        int[] masks = {0, 1, 2, 4};
        for (int block = 0; block < 1024; block += 64) {
            CHECKS.part("faces over a loop, from " + block + " on");
            Twins twins = new Twins(CHECKS);
            twins.loadSphere(1);
            for (int number = block; number < block + 64; number++) {
                twins.beginCell(4);
                for (int k = 0; k <= 4; k++) {
                    int choice = number >> 2 * k & 3;
                    twins.setFace(k, cells[choice], masks[choice]);
                }
                twins.endCell();
            }
        }
        CHECKS.part("the faces of 0 0 0 1 1 over a loop");
        Calls x = new Calls(CHECKS).due(2, "loadSphere", 1).due(1, "beginCell", 4).faces(1, 2, 1, 2, 1, 2, 1, 4, 1, 4);
        x.due(2, "endCell");
    }

    private static void rankInDimensionZero() {
        CHECKS.part("the rank is 0 for n = 0");
        Calls.withVertices(CHECKS, 48).due(48, "betti", 0);
        Calls x = Calls.withVertices(CHECKS, 24);
        for (int edge = 0; edge < 23; edge++) {
            x.cell(edge + 1, 0, edge, 0);
            x.due(23 - edge, "betti", 0).due(0, "betti", 1);
        }
    }

    private static void rankInDimensionFive() {
        CHECKS.part("the rank is 0 for n = 5");
        Calls x = Calls.withVertices(CHECKS, 1);
        for (int cell = 1; cell <= 47; cell++) {
            x.sphere(4);
        }
        x.due(47, "betti", 4).due(0, "torsionCount", 4).due(0, "betti", 3).due(1, "betti", 0);
        new Calls(CHECKS).due(31, "loadSimplex", 4).due(0, "betti", 4).due(0, "betti", 3).due(1, "betti", 0);
    }

    private static void degenerateFacesDoNotCount() {
        CHECKS.part("degenerate faces do not count in the boundary matrix");
        Calls x = Calls.oneOfEach(CHECKS);
        for (int cell = 0; cell <= 4; cell++) {
            for (int other = 0; other <= 4; other++) {
                x.due(0, "incidence", cell, other);
            }
            x.due(1, "betti", cell);
        }
    }

    private static void degenerateHorns() {
        CHECKS.part("horns of degenerate simplices, with degenerate fillers");
        Calls x = Calls.withVertices(CHECKS, 1);
        for (int k = 0; k <= 2; k++) {
            x.due(1, "hornCount", k).due(0, "unfilledCount", k);
        }
    }

    private static void nothingSavedAtFirst() {
        CHECKS.part("nothing is saved at first");
        new Calls(CHECKS).due(2, "loadSphere", 4).due(0, "product").due(0, "cellCount", 0).due(0, "cellCount", 4);
        new Calls(CHECKS).due(31, "loadSimplex", 4).due(31, "clear").due(0, "addVertex").due(0, "product");
    }

    private static void savedIsACopy() {
        CHECKS.part("the saved set is a copy, stays, and is replaced whole");
        Calls x = new Calls(CHECKS).due(7, "loadSimplex", 2).due(7, "save").due(7, "addVertex");
        CHECKS.due("endCell()", x.cell(0, 0, 7, 0), 8);
        x.due(1, "loadSimplex", 0).due(7, "product").due(SimplicialSet.FULL, "product");
        x.due(1, "loadSimplex", 0).due(7, "product").due(3, "cellCount", 0);
        x.due(1, "loadSimplex", 0).due(1, "save").due(7, "loadSimplex", 2).due(7, "product").due(3, "cellCount", 1);
        x.due(5, "faceCell", 6, 2, 3, 0).due(4, "faceCell", 6, 2, 3, 1).due(3, "faceCell", 6, 2, 3, 2);
    }

    /** Spheres of all dimensions: product is refused above 4 and for no other reason. */
    private static void greatestDimensionsOfProducts() {
        int[][] cells = {{6, 8, 10}, {8, 16}, {10}};
        for (int n = 1; n <= 4; n++) {
            for (int saved = 1; saved <= 4; saved++) {
                CHECKS.part("product of spheres of dimensions " + n + " and " + saved);
                Calls x = new Calls(CHECKS).due(2, "loadSphere", saved).due(2, "save").due(2, "loadSphere", n);
                if (n + saved > 4) {
                    x.due(SimplicialSet.BAD_DIMENSION, "product").due(n, "dimension", 1).due(1, "betti", n);
                } else {
                    x.due(cells[n - 1][saved - 1], "product").due(n == saved ? 2 : 1, "betti", n)
                            .due(1, "betti", n + saved);
                }
            }
        }
        CHECKS.part("product with dimension 4 and with dimension 0");
        new Calls(CHECKS).due(2, "loadSphere", 4).due(2, "save").due(1, "loadSimplex", 0).due(2, "product")
                .due(4, "dimension", 1);
        new Calls(CHECKS).due(1, "loadSimplex", 0).due(1, "save").due(2, "loadSphere", 4).due(2, "product")
                .due(4, "dimension", 1);
    }

    private static void the512thCall() {
        CHECKS.part("the 512th call");
        Calls x = new Calls(CHECKS).due(2, "loadSphere", 1).due(2, "save");
        while (x.made() < 510) {
            x.due(2, "loadSphere", 1).due(6, "product").due(26, "product").due(SimplicialSet.FULL, "product");
        }
        x.due(3, "betti", 1).due(0, "eulerCharacteristic");
        CHECKS.due("calls", x.made(), 512);
    }
}
