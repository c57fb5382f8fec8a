import java.util.Random;

/** Promises 24 and 25 on small sets from fixed seeds, in full: every face of every product cell. */
public final class RandomProductsTest {
    private static final int RUNS = 500;

    public static void main(String[] args) {
        Checks checks = new Checks();
        int done = 0;
        for (int run = 0; run < RUNS && checks.wrong() == 0; run++) {
            checks.part("run " + run);
            if (multiply(new Twins(checks), new Random(6151L * run + 3)) > 0) {
                done++;
            }
        }
        checks.holds("most products have cells", done > RUNS / 2);
        checks.finish();
    }

    private static int multiply(Twins twins, Random random) {
        int savedDimension = random.nextInt(5);
        buildSet(twins, random, savedDimension);
        twins.save();
        twins.clear();
        buildSet(twins, random, 4 - savedDimension);
        int cells = twins.product();
        twins.lookAround();
        return cells;
    }

    /** One or two vertices and a few cells up to a dimension. */
    private static void buildSet(Twins twins, Random random, int greatest) {
        CellBuilder builder = new CellBuilder(twins, random, 1000);
        twins.addVertex();
        if (random.nextInt(3) == 0) {
            twins.addVertex();
        }
        int cells = random.nextInt(4);
        for (int cell = 0; cell < cells && greatest > 0; cell++) {
            builder.build(1 + random.nextInt(greatest));
        }
    }
}
