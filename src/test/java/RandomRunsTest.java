import java.util.Random;

/** Runs of up to 512 calls from fixed seeds, each call compared with the model's answer. */
public final class RandomRunsTest {
    private static final int RUNS = 600;
    private static final int CALLS = 480;
    private static final int[] ODD = {-1, -2, 5, 6, 7, 8, 31, 32, 33, 47, 48, 63, 64, 65, Integer.MAX_VALUE, Integer.MIN_VALUE};

    private final Random random;
    private final Twins twins;
    private final CellBuilder builder;
    private final int vertices;

    private RandomRunsTest(Checks checks, long seed) {
        random = new Random(seed);
        twins = new Twins(checks);
        builder = new CellBuilder(twins, random, 40);
        vertices = 1 + random.nextInt(4);
    }

    public static void main(String[] args) {
        Checks checks = new Checks();
        for (int run = 0; run < RUNS && checks.wrong() == 0; run++) {
            checks.part("run " + run);
            new RandomRunsTest(checks, 7919L * run + 1).run();
        }
        checks.finish();
    }

    private void run() {
        while (twins.calls < CALLS) {
            int choice = random.nextInt(100);
            if (choice < 20) {
                buildCell();
            } else if (choice < 30) {
                disturb();
            } else if (choice < 32) {
                replace();
            } else {
                ask();
            }
        }
    }

    /** Mostly from 0 to the bound, now and then a number that is odd here. */
    private int number(int bound) {
        return random.nextInt(15) == 0 ? ODD[random.nextInt(ODD.length)] : random.nextInt(bound + 1);
    }

    private int cell() {
        return number(Math.max(0, twins.model.cells.size() - 1));
    }

    /** A mask that often is one of a simplex of dimension n over the cell. */
    private int mask(int cell, int n) {
        int m = twins.model.dimension(cell);
        int mask = number(63);
        for (int tries = 0; tries < 200 && n >= 0 && n <= 6 && Model.sequence(n, m, mask) == null; tries++) {
            mask = random.nextInt(10) == 0 ? number(63) : random.nextInt(1 << n);
            if (random.nextInt(100) == 0) {
                break;
            }
        }
        return mask;
    }

    private void buildCell() {
        if (twins.model.cellCount(0) < vertices) {
            twins.addVertex();
            return;
        }
        builder.build(1 + random.nextInt(4));
    }

    /** Calls that come at the wrong time or with any numbers. */
    private void disturb() {
        switch (random.nextInt(7)) {
            case 0 -> twins.addVertex();
            case 1 -> twins.beginCell(number(5));
            case 2 -> twins.endCell();
            case 3 -> twins.loadSimplex(ODD[random.nextInt(ODD.length)]);
            case 4 -> twins.loadSphere(ODD[random.nextInt(ODD.length)]);
            default -> {
                int cell = cell();
                twins.setFace(number(4), cell, mask(cell, random.nextInt(4)));
            }
        }
    }

    private void replace() {
        switch (random.nextInt(9)) {
            case 0 -> twins.clear();
            case 1 -> twins.loadSimplex(number(4));
            case 2 -> twins.loadSphere(number(4));
            case 3, 4, 5 -> twins.save();
            default -> twins.product();
        }
    }

    private void ask() {
        int cell = cell();
        int n = number(6);
        int mask = mask(cell, n);
        switch (random.nextInt(17)) {
            case 0 -> twins.cellCount(number(4));
            case 1 -> twins.dimension(cell);
            case 2, 3 -> twins.faceCell(cell, n, mask, number(6));
            case 4, 5 -> twins.faceMask(cell, n, mask, number(6));
            case 6 -> twins.degeneracyMask(cell, n, mask, number(6));
            case 7 -> twins.vertex(cell, n, mask, number(6));
            case 8 -> twins.simplexCount(n);
            case 9 -> twins.eulerCharacteristic();
            case 10 -> twins.partCount();
            case 11 -> twins.incidence(cell, cell());
            case 12 -> twins.betti(number(4));
            case 13 -> twins.torsionCount(number(4));
            case 14 -> twins.torsion(number(4), number(2));
            case 15 -> twins.hornCount(number(2));
            default -> twins.unfilledCount(number(2));
        }
    }
}
