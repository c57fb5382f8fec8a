/**
 * Masks of simplices of dimension n over a cell of dimension m: the numbers from 0 to 2^n - 1 with exactly
 * m bits set, and no others, over cells of each dimension and for each n.
 */
public final class MasksTest {
    private static final Checks CHECKS = new Checks();
    private static final String[] OF_SIMPLICES = {"faceCell", "faceMask", "degeneracyMask", "vertex"};
    private static final int[] LEAST_N = {1, 1, 0, 0};
    private static final int[] GREATEST_N = {6, 6, 5, 6};
    /** Row n, column m: how many masks there are. */
    private static final int[][] MASKS = {
        {1, 0, 0, 0, 0},
        {1, 1, 0, 0, 0},
        {1, 2, 1, 0, 0},
        {1, 3, 3, 1, 0},
        {1, 4, 6, 4, 1},
        {1, 5, 10, 10, 5},
        {1, 6, 15, 20, 15}
    };

    public static void main(String[] args) {
        for (int at = 0; at < OF_SIMPLICES.length; at++) {
            for (int n = LEAST_N[at]; n <= GREATEST_N[at]; n++) {
                for (int m = 0; m <= 4; m++) {
                    everyMask(OF_SIMPLICES[at], n, m);
                    farMasks(OF_SIMPLICES[at], n, m);
                }
            }
        }
        for (int draft = 1; draft <= 4; draft++) {
            for (int m = 0; m <= 4; m++) {
                everyMaskOfAFace(draft, m);
                farMasksOfAFace(draft, m);
            }
        }
        theGreatestMasks();
        CHECKS.finish();
    }

    private static int bits(int mask) {
        int bits = 0;
        for (int bit = 0; bit < 32; bit++) {
            bits += mask >>> bit & 1;
        }
        return bits;
    }

    /** From -2 to the double of what n + 1 bits hold: too few bits, too many, and bits at the places n and above. */
    private static void everyMask(String name, int n, int m) {
        CHECKS.part(name + ", n = " + n + " over a cell of dimension " + m);
        Calls x = Calls.oneOfEach(CHECKS);
        int found = 0;
        for (int mask = -2; mask < 4 << n; mask++) {
            if (mask >= 0 && mask < 1 << n && bits(mask) == m) {
                x.allowed(name, m, n, mask, n);
                found++;
            } else {
                x.due(SimplicialSet.BAD_MASK, name, m, n, mask, n);
            }
        }
        CHECKS.due("masks", found, MASKS[n][m]);
    }

    /** Masks with a wrong number of bits that an int or a shift could lose, and those with the right number. */
    private static void farMasks(String name, int n, int m) {
        Calls x = Calls.oneOfEach(CHECKS);
        for (int mask : far(n, m)) {
            x.due(SimplicialSet.BAD_MASK, name, m, n, mask, 0);
        }
    }

    private static int[] far(int n, int m) {
        int low = (1 << m) - 1;
        int allButOne = low >> 1;
        return new int[] {
            -1, -2, Integer.MIN_VALUE, Integer.MAX_VALUE, Integer.MIN_VALUE | low, Integer.MIN_VALUE | allButOne,
            1 << 30 | low, 1 << 30 | allButOne, 1 << 16 | low, 1 << 8 | low, 64 | low, 64 | allButOne, 128 | allButOne,
            1 << n | low, 1 << n | low << 1, -low - 1, ~low, (low | 1) << 26, low << 7 | 1 << 12
        };
    }

    /** A face of a draft is a simplex whose dimension is that of the draft minus 1. */
    private static void everyMaskOfAFace(int draft, int m) {
        CHECKS.part("setFace, a draft of dimension " + draft + " over a cell of dimension " + m);
        Calls x = Calls.oneOfEach(CHECKS).due(1, "beginCell", draft);
        int n = draft - 1;
        int found = 0;
        for (int mask = -2; mask < 4 << n; mask++) {
            boolean isMask = mask >= 0 && mask < 1 << n && bits(mask) == m;
            x.due(isMask ? 1 : SimplicialSet.BAD_MASK, "setFace", draft, m, mask);
            found += isMask ? 1 : 0;
        }
        CHECKS.due("masks", found, MASKS[n][m]);
    }

    private static void farMasksOfAFace(int draft, int m) {
        Calls x = Calls.oneOfEach(CHECKS).due(1, "beginCell", draft);
        for (int mask : far(draft - 1, m)) {
            x.due(SimplicialSet.BAD_MASK, "setFace", 0, m, mask);
        }
    }

    private static void theGreatestMasks() {
        CHECKS.part("the least and the greatest mask of dimension 6 over a cell of dimension 4");
        Calls x = new Calls(CHECKS);
        x.due(31, "loadSimplex", 4);
        // 0 1 2 3 4 4 4 and 0 0 0 1 2 3 4
        x.due(4, "vertex", 30, 6, 15, 4).due(2, "vertex", 30, 6, 60, 4);
        x.due(SimplicialSet.BAD_MASK, "vertex", 30, 6, 14, 4).due(SimplicialSet.BAD_MASK, "vertex", 30, 6, 61, 4);
        x.due(SimplicialSet.BAD_MASK, "vertex", 30, 6, 63, 4).due(SimplicialSet.BAD_MASK, "vertex", 30, 6, 64, 4);
        CHECKS.part("the only mask of dimension 0");
        x.due(3, "vertex", 3, 0, 0, 0).due(SimplicialSet.BAD_MASK, "vertex", 3, 0, 1, 0);
        x.due(SimplicialSet.BAD_MASK, "vertex", 5, 0, 0, 0).due(SimplicialSet.BAD_MASK, "vertex", 5, 0, 1, 0);
    }
}
