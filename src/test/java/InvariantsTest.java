/** Promises 14 to 19: eulerCharacteristic, partCount, incidence, betti, torsionCount, torsion. */
public final class InvariantsTest {
    private static final int[] FAR = {Integer.MIN_VALUE, -1000, -1, 5, 1000, Integer.MAX_VALUE};
    private static final Checks CHECKS = new Checks();

    private static void due(String call, long got, long want) {
        CHECKS.due(call, got, want);
    }

    public static void main(String[] args) {
        eulerCharacteristics();
        parts();
        incidences();
        bettiNumbers();
        projectivePlaneTimesCircle();
        torsionErrors();
        nothingChanges();
        CHECKS.finish();
    }

    private static void edge(SimplicialSet x, int face0, int face1) {
        x.beginCell(1);
        x.setFace(0, face0, 0);
        x.setFace(1, face1, 0);
        x.endCell();
    }

    /** A vertex 0, a loop 1 and a triangle 2 over it with the faces loop, degenerate, loop. */
    private static SimplicialSet projectivePlane() {
        SimplicialSet x = new SimplicialSet();
        x.addVertex();
        edge(x, 0, 0);
        x.beginCell(2);
        x.setFace(0, 1, 1);
        x.setFace(1, 0, 0);
        x.setFace(2, 1, 1);
        x.endCell();
        return x;
    }

    private static void eulerCharacteristics() {
        CHECKS.part("promise 14");
        SimplicialSet x = new SimplicialSet();
        for (int n = 0; n <= 4; n++) {
            x.loadSimplex(n);
            due("of loadSimplex(" + n + ")", x.eulerCharacteristic(), 1);
        }
        for (int n = 1; n <= 4; n++) {
            x.loadSphere(n);
            due("of loadSphere(" + n + ")", x.eulerCharacteristic(), n % 2 == 0 ? 2 : 0);
        }
        x.clear();
        x.addVertex();
        edge(x, 0, 0);
        edge(x, 0, 0);
        edge(x, 0, 0);
        due("of three loops", x.eulerCharacteristic(), -2);
    }

    private static void parts() {
        CHECKS.part("promise 15");
        SimplicialSet x = new SimplicialSet();
        for (int vertex = 0; vertex < 6; vertex++) {
            x.addVertex();
            due("partCount()", x.partCount(), vertex + 1);
        }
        edge(x, 4, 4);
        due("a loop joins nothing", x.partCount(), 6);
        edge(x, 5, 2);
        due("an edge", x.partCount(), 5);
        edge(x, 2, 5);
        due("the edge back", x.partCount(), 5);
        edge(x, 0, 1);
        due("another edge", x.partCount(), 4);
        edge(x, 1, 2);
        due("an edge between two edges", x.partCount(), 3);
        edge(x, 0, 5);
        due("an edge that closes a circle", x.partCount(), 3);
        due("betti(0)", x.betti(0), 3);
        x.loadSphere(4);
        due("of a sphere", x.partCount(), 1);
    }

    private static void incidences() {
        CHECKS.part("promise 16");
        SimplicialSet x = projectivePlane();
        due("incidence(2, 1)", x.incidence(2, 1), 2);
        due("incidence(1, 0)", x.incidence(1, 0), 0);
        due("incidence(2, 0): a degenerate face does not count", x.incidence(2, 0), 0);
        due("incidence(1, 2)", x.incidence(1, 2), 0);
        due("incidence(2, 2)", x.incidence(2, 2), 0);
        due("incidence(0, 0)", x.incidence(0, 0), 0);
        due("incidence(3, 0)", x.incidence(3, 0), SimplicialSet.NO_SUCH_CELL);
        due("incidence(0, 3)", x.incidence(0, 3), SimplicialSet.NO_SUCH_CELL);
        due("incidence(-1, 0)", x.incidence(-1, 0), SimplicialSet.NO_SUCH_CELL);
        due("incidence(0, -1)", x.incidence(0, -1), SimplicialSet.NO_SUCH_CELL);
        due("incidence of far numbers", x.incidence(Integer.MAX_VALUE, Integer.MIN_VALUE), SimplicialSet.NO_SUCH_CELL);
        x.loadSimplex(4);
        int[] signs = {-1, 1, -1, 1, -1};
        // The tetrahedra 25 to 29 leave out the vertices 4 to 0.
        for (int cell = 25; cell < 30; cell++) {
            due("incidence(30, " + cell + ")", x.incidence(30, cell), -signs[cell - 25]);
        }
        due("incidence(5, 0)", x.incidence(5, 0), -1);
        due("incidence(5, 1)", x.incidence(5, 1), 1);
        due("incidence(5, 2)", x.incidence(5, 2), 0);
    }

    private static void bettiNumbers() {
        CHECKS.part("promises 17 and 18");
        SimplicialSet x = new SimplicialSet();
        for (int n = 1; n <= 4; n++) {
            x.loadSphere(n);
            for (int m = 0; m <= 4; m++) {
                due("betti(" + m + ") of loadSphere(" + n + ")", x.betti(m), m == 0 || m == n ? 1 : 0);
                due("torsionCount(" + m + ") of loadSphere(" + n + ")", x.torsionCount(m), 0);
            }
            x.loadSimplex(n);
            for (int m = 0; m <= 4; m++) {
                due("betti(" + m + ") of loadSimplex(" + n + ")", x.betti(m), m == 0 ? 1 : 0);
                due("torsionCount(" + m + ") of loadSimplex(" + n + ")", x.torsionCount(m), 0);
            }
        }
        x.clear();
        x.addVertex();
        x.addVertex();
        x.addVertex();
        edge(x, 0, 1);
        edge(x, 0, 1);
        edge(x, 1, 0);
        due("betti(0) of three edges and a point", x.betti(0), 2);
        due("betti(1) of three edges and a point", x.betti(1), 2);
        for (int far : FAR) {
            due("betti(" + far + ")", x.betti(far), SimplicialSet.BAD_DIMENSION);
            due("torsionCount(" + far + ")", x.torsionCount(far), SimplicialSet.BAD_DIMENSION);
        }
    }

    /** Its homology is Z, Z + Z/2, Z/2. */
    private static void projectivePlaneTimesCircle() {
        CHECKS.part("promises 17 to 19, the projective plane times a circle");
        SimplicialSet x = projectivePlane();
        x.save();
        x.loadSphere(1);
        due("product()", x.product(), 12);
        int[] betti = {1, 1, 0, 0, 0};
        int[] torsions = {0, 1, 1, 0, 0};
        for (int n = 0; n <= 4; n++) {
            due("betti(" + n + ")", x.betti(n), betti[n]);
            due("torsionCount(" + n + ")", x.torsionCount(n), torsions[n]);
            due("torsion(" + n + ", 0)", x.torsion(n, 0), torsions[n] == 1 ? 2 : SimplicialSet.NONE);
            due("torsion(" + n + ", 1)", x.torsion(n, 1), SimplicialSet.NONE);
        }
    }

    private static void torsionErrors() {
        CHECKS.part("promise 19, errors");
        SimplicialSet x = projectivePlane();
        for (int far : FAR) {
            due("torsion(" + far + ", -1)", x.torsion(far, -1), SimplicialSet.BAD_DIMENSION);
            due("torsion(" + far + ", 0)", x.torsion(far, 0), SimplicialSet.BAD_DIMENSION);
        }
        for (int n = 0; n <= 4; n++) {
            due("torsion(" + n + ", -1)", x.torsion(n, -1), SimplicialSet.BAD_INDEX);
            due("torsion(" + n + ", least)", x.torsion(n, Integer.MIN_VALUE), SimplicialSet.BAD_INDEX);
            due("torsion(" + n + ", greatest)", x.torsion(n, Integer.MAX_VALUE), SimplicialSet.NONE);
        }
        due("torsion(1, 0)", x.torsion(1, 0), 2);
        due("torsion(1, 1)", x.torsion(1, 1), SimplicialSet.NONE);
        due("torsion(4, 0)", x.torsion(4, 0), SimplicialSet.NONE);
    }

    /** Asking for invariants leaves the cells and the draft as they are. */
    private static void nothingChanges() {
        CHECKS.part("promises 14 to 21 change nothing");
        Twins twins = new Twins(CHECKS);
        twins.addVertex();
        twins.beginCell(2);
        twins.setFace(0, 0, 0);
        twins.setFace(2, 0, 0);
        twins.lookAround();
        due("endCell()", twins.endCell(), SimplicialSet.INCOMPLETE);
        twins.setFace(1, 0, 0);
        twins.lookAround();
        due("endCell()", twins.endCell(), 1);
        twins.lookAround();
        twins.lookAround();
    }
}
