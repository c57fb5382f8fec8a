import java.util.Arrays;

/**
 * Places in the list of torsion coefficients: BAD_INDEX for a negative k, NONE where the list has k or fewer
 * entries, the greatest int as k; the answer is a long.
 */
public final class TorsionListTest {
    private static final Checks CHECKS = new Checks();
    private static final int[] NEGATIVE = {-1, -2, -109, Integer.MIN_VALUE, Integer.MIN_VALUE + 1};

    public static void main(String[] args) throws NoSuchMethodException {
        for (int entries = 0; entries <= 5; entries++) {
            for (int n = 1; n <= 3; n++) {
                dueList(doubled(n, entries), n, twos(entries));
            }
        }
        ascending();
        noneInDimensionsZeroAndFour();
        theLongestList();
        answersThatAreLong();
        CHECKS.finish();
    }

    private static long[] twos(int entries) {
        long[] list = new long[entries];
        Arrays.fill(list, 2L);
        return list;
    }

    /** Over the vertex 0, as many cells of dimension n (numbered from 1), each with a cell that winds about it twice. */
    private static Calls doubled(int n, int entries) {
        Calls x = bouquet(n, entries);
        for (int entry = 1; entry <= entries; entry++) {
            attach(x, n, entry, 0, entry);
        }
        return x;
    }

    private static Calls bouquet(int n, int spheres) {
        Calls x = Calls.withVertices(CHECKS, 1);
        for (int sphere = 0; sphere < spheres; sphere++) {
            x.sphere(n);
        }
        return x;
    }

    /** A cell of dimension n + 1 whose first faces are cells of dimension n, or 0 for degenerate ones. */
    private static void attach(Calls x, int n, int... cells) {
        int[] faces = new int[2 * n + 4];
        for (int k = 0; k < cells.length; k++) {
            faces[2 * k] = cells[k];
            faces[2 * k + 1] = cells[k] == 0 ? 0 : (1 << n) - 1;
        }
        CHECKS.holds("the cell is stored", x.cell(faces) > 0);
    }

    private static void dueList(Calls x, int n, long... list) {
        CHECKS.part("a list of " + list.length + " in dimension " + n);
        x.due(list.length, "torsionCount", n);
        for (int k = 0; k < list.length; k++) {
            x.due(list[k], "torsion", n, k);
        }
        for (int above : new int[] {0, 1, 2, 47}) {
            x.due(SimplicialSet.NONE, "torsion", n, list.length + above);
        }
        x.due(SimplicialSet.NONE, "torsion", n, Integer.MAX_VALUE);
        x.due(SimplicialSet.NONE, "torsion", n, Integer.MAX_VALUE - 1);
        for (int k : NEGATIVE) {
            x.due(SimplicialSet.BAD_INDEX, "torsion", n, k);
            x.due(SimplicialSet.BAD_DIMENSION, "torsion", -1, k).due(SimplicialSet.BAD_DIMENSION, "torsion", 5, k);
        }
    }

    /** 2, 3 and 2 times a cell: the invariant factors are 1, 2 and 6, of which 1 does not count. */
    private static void ascending() {
        Calls x = bouquet(3, 3);
        attach(x, 3, 1, 0, 1);
        attach(x, 3, 2, 0, 2, 0, 2);
        attach(x, 3, 3, 0, 3);
        dueList(x, 3, 2, 6);
    }

    private static void noneInDimensionsZeroAndFour() {
        for (int n = 1; n <= 3; n++) {
            dueList(doubled(n, 2), 0);
            dueList(doubled(n, 2), 4);
        }
        dueList(new Calls(CHECKS), 0);
        dueList(new Calls(CHECKS), 4);
        dueList(new Calls(CHECKS).due(3, "loadSimplex", 1), 0);
        dueList(new Calls(CHECKS).due(31, "loadSimplex", 4), 4);
        dueList(Calls.oneOfEach(CHECKS), 4);
    }

    /** 47 cells: no more than 23 of one dimension can have a cell of their own above them, beside the vertex. */
    private static void theLongestList() {
        for (int n = 1; n <= 3; n++) {
            dueList(doubled(n, 23), n, twos(23));
        }
    }

    /** In a circle of 23 cells, 3 of each are 2 of the next: one coefficient, 3^23 - 2^23, beyond any int. */
    private static void answersThatAreLong() throws NoSuchMethodException {
        Calls x = bouquet(3, 23);
        for (int cell = 1; cell <= 23; cell++) {
            int next = cell % 23 + 1;
            attach(x, 3, cell, next, cell, next, cell);
        }
        dueList(x, 3, 94134790219L);
        CHECKS.holds("torsion answers a long",
                SimplicialSet.class.getMethod("torsion", int.class, int.class).getReturnType() == long.class);
    }
}
