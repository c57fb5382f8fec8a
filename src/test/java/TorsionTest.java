import java.util.Random;

/**
 * Promises 17 to 19 on matrices of every shape: over one vertex, cells of dimension m - 1 with
 * degenerate faces alone leave the faces of the cells of dimension m free to choose.
 */
public final class TorsionTest {
    private static final int DEGENERATE = -1;

    private final Checks checks = new Checks();

    public static void main(String[] args) {
        TorsionTest test = new TorsionTest();
        test.cyclicTorsionBeyondInt();
        test.severalCoefficientsInOrder();
        test.coefficientThatIsTheWholeMinor();
        test.largestMatrix();
        test.randomMatrices();
        test.checks.finish();
    }

    /** A vertex (cell 0) and the given number of cells of dimension m - 1, numbered from 1. */
    private Twins bouquet(int m, int spheres) {
        Twins twins = new Twins(checks);
        twins.addVertex();
        for (int sphere = 0; sphere < spheres; sphere++) {
            twins.beginCell(m - 1);
            for (int k = 0; k < m; k++) {
                twins.setFace(k, 0, 0);
            }
            twins.endCell();
        }
        return twins;
    }

    /** A cell of dimension m whose faces are the given spheres, from 0, or degenerate. */
    private void attach(Twins twins, int... faces) {
        int m = faces.length - 1;
        twins.beginCell(m);
        for (int k = 0; k <= m; k++) {
            boolean degenerate = faces[k] == DEGENERATE;
            twins.setFace(k, degenerate ? 0 : faces[k] + 1, degenerate ? 0 : (1 << (m - 1)) - 1);
        }
        twins.endCell();
    }

    private void cyclicTorsionBeyondInt() {
        checks.part("cyclic torsion");
        int size = 23;
        Twins twins = bouquet(4, size);
        for (int column = 0; column < size; column++) {
            int next = (column + 1) % size;
            attach(twins, column, next, column, next, column);
        }
        checks.due("torsion(3, 0)", twins.set.torsion(3, 0), 94134790219L);
        checks.due("torsionCount(3)", twins.set.torsionCount(3), 1);
        checks.due("torsion(3, 1)", twins.set.torsion(3, 1), SimplicialSet.NONE);
        checks.due("betti(3)", twins.set.betti(3), 0);
        checks.due("betti(4)", twins.set.betti(4), 0);
        checks.due("calls", Math.min(twins.calls, 500), twins.calls);
    }

    private void severalCoefficientsInOrder() {
        checks.part("several coefficients");
        Twins twins = bouquet(4, 4);
        attach(twins, 0, DEGENERATE, 0, DEGENERATE, 0);
        attach(twins, 1, DEGENERATE, 1, DEGENERATE, DEGENERATE);
        attach(twins, 2, DEGENERATE, 2, DEGENERATE, DEGENERATE);
        attach(twins, 3, DEGENERATE, 3, DEGENERATE, 3);
        checks.due("torsionCount(3)", twins.set.torsionCount(3), 2);
        checks.due("torsion(3, 0)", twins.set.torsion(3, 0), 6);
        checks.due("torsion(3, 1)", twins.set.torsion(3, 1), 6);
        attach(twins, 0, 1, DEGENERATE, DEGENERATE, 0);
        twins.lookAround();
    }

    private void coefficientThatIsTheWholeMinor() {
        checks.part("one coefficient and rank deficit");
        Twins twins = bouquet(2, 3);
        attach(twins, 0, DEGENERATE, 0);
        attach(twins, 0, DEGENERATE, 0);
        attach(twins, 1, 1, 1);
        checks.due("torsionCount(1)", twins.set.torsionCount(1), 1);
        checks.due("torsion(1, 0)", twins.set.torsion(1, 0), 2);
        checks.due("betti(1)", twins.set.betti(1), 1);
        checks.due("betti(2)", twins.set.betti(2), 1);
    }

    /** 24 vertices and 24 edges in one circle: no boundary matrix has more entries. */
    private void largestMatrix() {
        checks.part("24 rows and 24 columns");
        int size = 24;
        Twins twins = new Twins(checks);
        for (int vertex = 0; vertex < size; vertex++) {
            twins.addVertex();
        }
        for (int edge = 0; edge < size; edge++) {
            twins.beginCell(1);
            twins.setFace(0, (edge + 1) % size, 0);
            twins.setFace(1, edge, 0);
            twins.endCell();
        }
        checks.due("betti(0)", twins.set.betti(0), 1);
        checks.due("betti(1)", twins.set.betti(1), 1);
        checks.due("torsionCount(0)", twins.set.torsionCount(0), 0);
        checks.due("torsion(0, 0)", twins.set.torsion(0, 0), SimplicialSet.NONE);
    }

    private void randomMatrices() {
        Random random = new Random(20261118L);
        for (int run = 0; run < 400 && checks.wrong() == 0; run++) {
            checks.part("random matrix " + run);
            int m = 2 + run % 3;
            int spheres = 1 + random.nextInt(run % 4 == 0 ? 6 : 26);
            Twins twins = bouquet(m, spheres);
            int columns = Math.min(47 - spheres, 1 + random.nextInt(run % 5 == 0 ? 5 : 26));
            int spread = 1 + random.nextInt(5);
            for (int column = 0; column < columns; column++) {
                attach(twins, randomFaces(random, m, spheres, spread));
            }
            for (int n = 0; n <= 4; n++) {
                twins.betti(n);
                twins.torsionCount(n);
                for (int k = 0; k <= 4; k++) {
                    twins.torsion(n, k);
                }
            }
        }
    }

    /** Even faces often agree, and odd ones too, so that entries and minors become large. */
    private static int[] randomFaces(Random random, int m, int spheres, int spread) {
        int[] faces = new int[m + 1];
        int even = random.nextInt(spheres);
        int odd = random.nextInt(spheres);
        for (int k = 0; k <= m; k++) {
            int usual = k % 2 == 0 ? even : odd;
            int choice = random.nextInt(10);
            faces[k] = choice > spread ? usual : choice == 0 ? DEGENERATE : random.nextInt(spheres);
        }
        return faces;
    }
}
