/** The document's four examples, each on a new object. */
public final class ExamplesTest {
    private static final Checks CHECKS = new Checks();

    private static void due(String call, long got, long want) {
        CHECKS.due(call, got, want);
    }

    public static void main(String[] args) {
        cellsWithTorsion(new SimplicialSet());
        facesAndDegeneracies(new SimplicialSet());
        productsOfCircles(new SimplicialSet());
        hornsOfAnEdge(new SimplicialSet());
        CHECKS.finish();
    }

    private static void cellsWithTorsion(SimplicialSet x) {
        CHECKS.part("example 1");
        due("addVertex()", x.addVertex(), 0);
        due("beginCell(1)", x.beginCell(1), 1);
        due("setFace(0, 0, 0)", x.setFace(0, 0, 0), 1);
        due("setFace(1, 0, 0)", x.setFace(1, 0, 0), 1);
        due("endCell()", x.endCell(), 1);
        due("beginCell(2)", x.beginCell(2), 1);
        due("setFace(0, 1, 1)", x.setFace(0, 1, 1), 1);
        due("setFace(1, 0, 0)", x.setFace(1, 0, 0), 1);
        due("setFace(2, 1, 1)", x.setFace(2, 1, 1), 1);
        due("endCell()", x.endCell(), 2);
        due("incidence(2, 1)", x.incidence(2, 1), 2);
        due("betti(1)", x.betti(1), 0);
        due("torsionCount(1)", x.torsionCount(1), 1);
        due("torsion(1, 0)", x.torsion(1, 0), 2);
        due("betti(2)", x.betti(2), 0);
        due("eulerCharacteristic()", x.eulerCharacteristic(), 1);
    }

    private static void facesAndDegeneracies(SimplicialSet x) {
        CHECKS.part("example 2");
        due("loadSimplex(2)", x.loadSimplex(2), 7);
        due("cellCount(1)", x.cellCount(1), 3);
        due("faceCell(6, 2, 3, 0)", x.faceCell(6, 2, 3, 0), 5);
        due("faceCell(6, 3, 5, 1)", x.faceCell(6, 3, 5, 1), 6);
        due("faceMask(6, 3, 5, 1)", x.faceMask(6, 3, 5, 1), 3);
        due("faceCell(6, 3, 5, 0)", x.faceCell(6, 3, 5, 0), 5);
        due("faceMask(6, 3, 5, 0)", x.faceMask(6, 3, 5, 0), 2);
        due("degeneracyMask(6, 2, 3, 1)", x.degeneracyMask(6, 2, 3, 1), 5);
        due("vertex(6, 3, 5, 2)", x.vertex(6, 3, 5, 2), 1);
        due("simplexCount(2)", x.simplexCount(2), 10);
        due("faceCell(6, 2, 2, 0)", x.faceCell(6, 2, 2, 0), -103);
        due("dimension(7)", x.dimension(7), -101);
    }

    private static void productsOfCircles(SimplicialSet x) {
        CHECKS.part("example 3");
        due("loadSphere(1)", x.loadSphere(1), 2);
        due("save()", x.save(), 2);
        due("product()", x.product(), 6);
        due("cellCount(1)", x.cellCount(1), 3);
        due("cellCount(2)", x.cellCount(2), 2);
        due("betti(0)", x.betti(0), 1);
        due("betti(1)", x.betti(1), 2);
        due("betti(2)", x.betti(2), 1);
        due("partCount()", x.partCount(), 1);
        due("hornCount(1)", x.hornCount(1), 16);
        due("unfilledCount(1)", x.unfilledCount(1), 7);
        due("product()", x.product(), 26);
        due("eulerCharacteristic()", x.eulerCharacteristic(), 0);
    }

    private static void hornsOfAnEdge(SimplicialSet x) {
        CHECKS.part("example 4");
        due("loadSimplex(1)", x.loadSimplex(1), 3);
        due("hornCount(0)", x.hornCount(0), 5);
        due("unfilledCount(0)", x.unfilledCount(0), 1);
        due("unfilledCount(1)", x.unfilledCount(1), 0);
        due("unfilledCount(2)", x.unfilledCount(2), 1);
        due("beginCell(5)", x.beginCell(5), -102);
        due("endCell()", x.endCell(), -106);
        due("beginCell(1)", x.beginCell(1), 1);
        due("setFace(0, 0, 0)", x.setFace(0, 0, 0), 1);
        due("endCell()", x.endCell(), -107);
        due("setFace(2, 0, 0)", x.setFace(2, 0, 0), -104);
        due("product()", x.product(), 0);
        due("clear()", x.clear(), 0);
        due("betti(0)", x.betti(0), 0);
    }
}
