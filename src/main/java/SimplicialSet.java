import java.util.Arrays;

/**
 * A finite simplicial set, stored by its cells (its nondegenerate simplices) and their faces,
 * which may be degenerate.
 *
 * <p>Everything that a call needs is made in the constructor and used again, so that no later
 * call makes an object.
 */
public final class SimplicialSet {
    public static final int NO_SUCH_CELL = -101;
    public static final int BAD_DIMENSION = -102;
    public static final int BAD_MASK = -103;
    public static final int BAD_INDEX = -104;
    public static final int FULL = -105;
    public static final int NO_DRAFT = -106;
    public static final int INCOMPLETE = -107;
    public static final int IDENTITY = -108;
    public static final int NONE = -109;

    private static final int MAX_CELLS = 48;
    private static final int MAX_CELL_DIMENSION = 4;
    private static final int MAX_SIMPLEX_DIMENSION = 6;
    private static final int MAX_FACES = 5;
    private static final int MASK_BITS = 6;
    private static final int UNSET = -1;

    private Cells present = new Cells();
    private Cells spare = new Cells();
    private final Cells saved = new Cells();
    private final Draft draft = new Draft();
    private final Pairs pairs = new Pairs();
    private final Horns horns = new Horns();
    private final Homology homology = new Homology();
    private final int[] partOf = new int[MAX_CELLS];
    private final int[] faceRow = new int[MAX_FACES];
    private final int[] cellOfSubset = new int[1 << MAX_FACES];

    public SimplicialSet() {
    }

    // ---- cells

    public int addVertex() {
        return present.append(0, faceRow);
    }

    public int beginCell(int dimension) {
        if (dimension < 1 || dimension > MAX_CELL_DIMENSION) {
            return BAD_DIMENSION;
        }
        draft.begin(dimension);
        return 1;
    }

    public int setFace(int k, int cell, int mask) {
        if (!draft.exists()) {
            return NO_DRAFT;
        }
        if (k < 0 || k > draft.size) {
            return BAD_INDEX;
        }
        if (!present.has(cell)) {
            return NO_SUCH_CELL;
        }
        if (!present.isMask(cell, draft.size - 1, mask)) {
            return BAD_MASK;
        }
        draft.faces[k] = pack(cell, mask);
        return 1;
    }

    public int endCell() {
        if (!draft.exists()) {
            return NO_DRAFT;
        }
        if (!draft.isComplete()) {
            return INCOMPLETE;
        }
        if (!draft.satisfiesIdentities(present)) {
            return IDENTITY;
        }
        int cell = present.append(draft.size, draft.faces);
        if (cell != FULL) {
            draft.drop();
        }
        return cell;
    }

    public int clear() {
        int removed = present.count;
        removeAll();
        return removed;
    }

    public int cellCount(int dimension) {
        if (dimension < 0 || dimension > MAX_CELL_DIMENSION) {
            return BAD_DIMENSION;
        }
        return present.countOf(dimension);
    }

    public int dimension(int cell) {
        return present.has(cell) ? present.dimensions[cell] : NO_SUCH_CELL;
    }

    // ---- simplices

    public int faceCell(int cell, int n, int mask, int i) {
        int error = checkPlace(cell, n, mask, i, 1, MAX_SIMPLEX_DIMENSION);
        return error != 0 ? error : cellOf(present.faceOf(pack(cell, mask), n, i));
    }

    public int faceMask(int cell, int n, int mask, int i) {
        int error = checkPlace(cell, n, mask, i, 1, MAX_SIMPLEX_DIMENSION);
        return error != 0 ? error : maskOf(present.faceOf(pack(cell, mask), n, i));
    }

    public int degeneracyMask(int cell, int n, int mask, int i) {
        int error = checkPlace(cell, n, mask, i, 0, MAX_SIMPLEX_DIMENSION - 1);
        return error != 0 ? error : withClearBit(mask, i);
    }

    public int vertex(int cell, int n, int mask, int j) {
        int error = checkPlace(cell, n, mask, j, 0, MAX_SIMPLEX_DIMENSION);
        return error != 0 ? error : cellOf(pointAt(pack(cell, mask), n, j));
    }

    public int simplexCount(int n) {
        if (n < 0 || n > MAX_SIMPLEX_DIMENSION) {
            return BAD_DIMENSION;
        }
        int total = 0;
        for (int cell = 0; cell < present.count; cell++) {
            total += binomial(n, present.dimensions[cell]);
        }
        return total;
    }

    // ---- invariants

    public int eulerCharacteristic() {
        int total = 0;
        for (int cell = 0; cell < present.count; cell++) {
            total += sign(present.dimensions[cell]);
        }
        return total;
    }

    public int partCount() {
        for (int cell = 0; cell < present.count; cell++) {
            partOf[cell] = cell;
        }
        int parts = present.countOf(0);
        for (int cell = 0; cell < present.count; cell++) {
            if (present.dimensions[cell] == 1 && joinEnds(cell)) {
                parts--;
            }
        }
        return parts;
    }

    public int incidence(int cell, int other) {
        if (!present.has(cell) || !present.has(other)) {
            return NO_SUCH_CELL;
        }
        int size = present.dimensions[cell];
        if (present.dimensions[other] != size - 1) {
            return 0;
        }
        int total = 0;
        for (int k = 0; k <= size; k++) {
            if (cellOf(present.faceAt(cell, k)) == other) {
                total += sign(k);
            }
        }
        return total;
    }

    public int betti(int n) {
        if (n < 0 || n > MAX_CELL_DIMENSION) {
            return BAD_DIMENSION;
        }
        return present.countOf(n) - homology.rankOf(present, n) - homology.rankOf(present, n + 1);
    }

    public int torsionCount(int n) {
        if (n < 0 || n > MAX_CELL_DIMENSION) {
            return BAD_DIMENSION;
        }
        homology.findFactors(present, n + 1);
        return homology.rank - homology.unitFactors();
    }

    public long torsion(int n, int k) {
        if (n < 0 || n > MAX_CELL_DIMENSION) {
            return BAD_DIMENSION;
        }
        if (k < 0) {
            return BAD_INDEX;
        }
        homology.findFactors(present, n + 1);
        int units = homology.unitFactors();
        return k < homology.rank - units ? homology.factors[units + k] : NONE;
    }

    // ---- horns

    public int hornCount(int k) {
        if (k < 0 || k > 2) {
            return BAD_INDEX;
        }
        horns.forget();
        return horns.countUnmarked(present, k);
    }

    public int unfilledCount(int k) {
        if (k < 0 || k > 2) {
            return BAD_INDEX;
        }
        horns.forget();
        horns.markFilled(present, k);
        return horns.countUnmarked(present, k);
    }

    // ---- ready-made sets, products

    public int loadSimplex(int n) {
        if (n < 0 || n > MAX_CELL_DIMENSION) {
            return BAD_DIMENSION;
        }
        removeAll();
        for (int size = 0; size <= n; size++) {
            appendSubsets(n + 1, size);
        }
        return present.count;
    }

    public int loadSphere(int n) {
        if (n < 1 || n > MAX_CELL_DIMENSION) {
            return BAD_DIMENSION;
        }
        removeAll();
        int point = present.append(0, faceRow);
        Arrays.fill(faceRow, pack(point, 0));
        present.append(n, faceRow);
        return present.count;
    }

    public int save() {
        saved.copyFrom(present);
        return saved.count;
    }

    public int product() {
        int greatest = present.greatestDimension() + saved.greatestDimension();
        if (greatest > MAX_CELL_DIMENSION) {
            return BAD_DIMENSION;
        }
        if (!pairs.collect(present, saved, greatest)) {
            return FULL;
        }
        pairs.writeTo(spare, present, saved);
        Cells old = present;
        present = spare;
        spare = old;
        draft.drop();
        return present.count;
    }

    // ---- helpers of the calls above

    private void removeAll() {
        present.count = 0;
        draft.drop();
    }

    /**
     * The first error of a simplex, whose dimension must lie between two bounds, and of a place
     * in its sequence; 0 if there is none.
     */
    private int checkPlace(int cell, int n, int mask, int place, int least, int greatest) {
        if (!present.has(cell)) {
            return NO_SUCH_CELL;
        }
        if (n < least || n > greatest) {
            return BAD_DIMENSION;
        }
        if (!present.isMask(cell, n, mask)) {
            return BAD_MASK;
        }
        return place < 0 || place > n ? BAD_INDEX : 0;
    }

    /** Takes faces, the greatest numbers first, until only one place of the sequence is left. */
    private int pointAt(int simplex, int n, int place) {
        int left = simplex;
        int size = n;
        for (int i = n; i >= 0; i--) {
            if (i != place) {
                left = present.faceOf(left, size, i);
                size--;
            }
        }
        return left;
    }

    /** Puts the two vertices of a cell of dimension 1 into one part; tells whether they were in two. */
    private boolean joinEnds(int edge) {
        int one = cellOf(present.faceAt(edge, 0));
        int other = cellOf(present.faceAt(edge, 1));
        if (!present.has(one) || !present.has(other) || partOf[one] == partOf[other]) {
            return false;
        }
        int kept = partOf[one];
        int given = partOf[other];
        for (int cell = 0; cell < present.count; cell++) {
            if (partOf[cell] == given) {
                partOf[cell] = kept;
            }
        }
        return true;
    }

    /**
     * Appends a cell of the given dimension for each subset of that many elements and one more.
     * Element 0 is the highest bit of a subset, so that descending numbers are lexicographic order.
     */
    private void appendSubsets(int elements, int size) {
        for (int subset = lowBits(elements); subset > 0; subset--) {
            if (Integer.bitCount(subset) == size + 1) {
                setFacesOfSubset(subset, size);
                cellOfSubset[subset] = present.append(size, faceRow);
            }
        }
    }

    private void setFacesOfSubset(int subset, int size) {
        if (size == 0) {
            return;
        }
        int rest = subset;
        for (int k = 0; k <= size; k++) {
            int element = Integer.highestOneBit(rest);
            rest -= element;
            faceRow[k] = pack(cellOfSubset[subset - element], lowBits(size - 1));
        }
    }

    // A simplex of known dimension is handled as one number: its cell above the bits of its mask.

    private static int pack(int cell, int mask) {
        return cell << MASK_BITS | mask;
    }

    private static int cellOf(int simplex) {
        return simplex >> MASK_BITS;
    }

    private static int maskOf(int simplex) {
        return simplex & lowBits(MASK_BITS);
    }

    private static int lowBits(int howMany) {
        return (1 << howMany) - 1;
    }

    /** The number e_place of the sequence that a mask stands for. */
    private static int numberAt(int mask, int place) {
        return Integer.bitCount(mask & lowBits(place));
    }

    private static boolean hasBit(int mask, int bit) {
        return (mask >> bit & 1) == 1;
    }

    /** The mask with one bit removed; the bits above it move down. */
    private static int withoutBit(int mask, int bit) {
        return mask & lowBits(bit) | mask >> (bit + 1) << bit;
    }

    /** The mask with a clear bit put in at a place; the bits from there on move up. */
    private static int withClearBit(int mask, int bit) {
        return mask & lowBits(bit) | mask >> bit << (bit + 1);
    }

    /** Removes from a mask all bits whose places are not set in another one. */
    private static int gatherBits(int mask, int places) {
        int gathered = 0;
        for (int bit = 0; bit < MASK_BITS; bit++) {
            if (hasBit(places, bit) && hasBit(mask, bit)) {
                gathered |= 1 << numberAt(places, bit);
            }
        }
        return gathered;
    }

    /** The reverse: puts the bits of a mask, in their order, to the places that are set in another one. */
    private static int spreadBits(int mask, int places) {
        int spread = 0;
        for (int bit = 0; bit < MASK_BITS; bit++) {
            if (hasBit(places, bit) && hasBit(mask, numberAt(places, bit))) {
                spread |= 1 << bit;
            }
        }
        return spread;
    }

    private static int sign(int k) {
        return k % 2 == 0 ? 1 : -1;
    }

    private static long gcd(long a, long b) {
        long greater = a;
        long lesser = b;
        // Two steps at least halve the numbers, which have 63 bits.
        for (int step = 0; step < 200 && lesser != 0L; step++) {
            long rest = greater % lesser;
            greater = lesser;
            lesser = rest;
        }
        return greater;
    }

    private static int binomial(int n, int m) {
        int ways = 1;
        for (int step = 1; step <= m; step++) {
            ways = ways * (n - step + 1) / step;
        }
        return ways;
    }

    /** The cells of one set; its faces are kept as packed simplices, MAX_FACES places for a cell. */
    private static final class Cells {
        final int[] dimensions = new int[MAX_CELLS];
        final int[] faces = new int[MAX_CELLS * MAX_FACES];
        int count;

        boolean has(int cell) {
            return cell >= 0 && cell < count;
        }

        /** Whether the mask is that of a simplex of dimension n (0 to 6) over the cell. */
        boolean isMask(int cell, int n, int mask) {
            return mask >= 0 && mask <= lowBits(n) && Integer.bitCount(mask) == dimensions[cell];
        }

        /** Face k of a stored cell, packed; what is no face is answered by 0, so that no index is wrong. */
        int faceAt(int cell, int k) {
            return has(cell) && k >= 0 && k < MAX_FACES ? faces[cell * MAX_FACES + k] : 0;
        }

        /** Stores a cell and returns its number, or FULL. */
        int append(int size, int[] row) {
            if (count >= MAX_CELLS) {
                return FULL;
            }
            int cell = count;
            dimensions[cell] = size;
            System.arraycopy(row, 0, faces, cell * MAX_FACES, MAX_FACES);
            count++;
            return cell;
        }

        void copyFrom(Cells other) {
            System.arraycopy(other.dimensions, 0, dimensions, 0, other.count);
            System.arraycopy(other.faces, 0, faces, 0, other.count * MAX_FACES);
            count = other.count;
        }

        int countOf(int size) {
            int found = 0;
            for (int cell = 0; cell < count; cell++) {
                if (dimensions[cell] == size) {
                    found++;
                }
            }
            return found;
        }

        int greatestDimension() {
            int greatest = 0;
            for (int cell = 0; cell < count; cell++) {
                greatest = Math.max(greatest, dimensions[cell]);
            }
            return greatest;
        }

        /** Face i of a simplex of dimension n (1 to 6). */
        int faceOf(int simplex, int n, int i) {
            int cell = cellOf(simplex);
            int mask = maskOf(simplex);
            if (i < n && !hasBit(mask, i)) {
                return pack(cell, withoutBit(mask, i));
            }
            if (i > 0 && !hasBit(mask, i - 1)) {
                return pack(cell, withoutBit(mask, i - 1));
            }
            // No neighbour repeats e_i, so the number is missing and a face of the cell takes over:
            // of the steps that are left, those remain that are steps of that face too.
            int face = faceAt(cell, numberAt(mask, i));
            int steps = withoutBit(mask, i < n ? i : n - 1);
            return pack(cellOf(face), spreadBits(maskOf(face), steps));
        }
    }

    /** The cell that is being built; its size is its dimension, 0 if there is no draft. */
    private static final class Draft {
        final int[] faces = new int[MAX_FACES];
        int size;

        boolean exists() {
            return size > 0;
        }

        void begin(int dimension) {
            size = dimension;
            Arrays.fill(faces, UNSET);
        }

        void drop() {
            size = 0;
        }

        boolean isComplete() {
            for (int k = 0; k <= size; k++) {
                if (faces[k] == UNSET) {
                    return false;
                }
            }
            return true;
        }

        /** The faces are all set. Those of an edge are vertices and owe nothing to each other. */
        boolean satisfiesIdentities(Cells cells) {
            if (size < 2) {
                return true;
            }
            for (int j = 1; j <= size; j++) {
                for (int i = 0; i < j; i++) {
                    int one = cells.faceOf(faces[j], size - 1, i);
                    int other = cells.faceOf(faces[i], size - 1, j - 1);
                    if (one != other) {
                        return false;
                    }
                }
            }
            return true;
        }
    }

    /** The cells of a product: pairs of simplices of the same dimension, one of each set. */
    private static final class Pairs {
        final int[] sizes = new int[MAX_CELLS];
        final int[] firsts = new int[MAX_CELLS];
        final int[] seconds = new int[MAX_CELLS];
        final int[] row = new int[MAX_FACES];
        int count;

        /** Lists the pairs in the document's order; tells whether there was room for all. */
        boolean collect(Cells first, Cells second, int greatest) {
            count = 0;
            for (int n = 0; n <= greatest; n++) {
                for (int cell = 0; cell < first.count; cell++) {
                    for (int mask = 0; mask <= lowBits(n); mask++) {
                        if (first.isMask(cell, n, mask) && !collectPartners(pack(cell, mask), second, n)) {
                            return false;
                        }
                    }
                }
            }
            return true;
        }

        /** Lists the pairs of dimension n whose first simplex is given. */
        private boolean collectPartners(int simplex, Cells second, int n) {
            for (int cell = 0; cell < second.count; cell++) {
                for (int mask = 0; mask <= lowBits(n); mask++) {
                    boolean covers = (maskOf(simplex) | mask) == lowBits(n);
                    if (covers && second.isMask(cell, n, mask)) {
                        if (count >= MAX_CELLS) {
                            return false;
                        }
                        sizes[count] = n;
                        firsts[count] = simplex;
                        seconds[count] = pack(cell, mask);
                        count++;
                    }
                }
            }
            return true;
        }

        /** Makes the listed pairs the cells of the target, which is neither of the two sets. */
        void writeTo(Cells target, Cells first, Cells second) {
            target.count = 0;
            for (int pair = 0; pair < count; pair++) {
                int n = sizes[pair];
                for (int i = 0; n > 0 && i <= n; i++) {
                    int one = first.faceOf(firsts[pair], n, i);
                    int other = second.faceOf(seconds[pair], n, i);
                    row[i] = faceOfPair(one, other);
                }
                target.append(n, row);
            }
        }

        private int faceOfPair(int one, int other) {
            int mask = maskOf(one) | maskOf(other);
            int first = pack(cellOf(one), gatherBits(maskOf(one), mask));
            int second = pack(cellOf(other), gatherBits(maskOf(other), mask));
            return pack(find(first, second), mask);
        }

        /** The number of a pair. Every face of a listed pair lies over a listed one. */
        private int find(int first, int second) {
            int found = 0;
            for (int pair = 0; pair < count; pair++) {
                if (firsts[pair] == first && seconds[pair] == second) {
                    found = pair;
                }
            }
            return found;
        }
    }

    /**
     * Counts horns. A simplex of dimension 1 is named by its cell alone: over a vertex its mask
     * is 0, over a cell of dimension 1 it is 1.
     */
    private static final class Horns {
        /** Bit b of the entry a is set if some simplex of dimension 2 fills the horn of a and b. */
        final long[] filled = new long[MAX_CELLS];
        final int[] meetsAsA = new int[MAX_CELLS];
        final int[] meetsAsB = new int[MAX_CELLS];

        void forget() {
            Arrays.fill(filled, 0L);
        }

        void markFilled(Cells cells, int k) {
            for (int cell = 0; cell < cells.count; cell++) {
                for (int mask = 0; mask <= lowBits(2); mask++) {
                    if (cells.isMask(cell, 2, mask)) {
                        int a = cellOf(cells.faceOf(pack(cell, mask), 2, lower(k)));
                        int b = cellOf(cells.faceOf(pack(cell, mask), 2, upper(k)));
                        if (cells.has(a)) {
                            filled[a] |= 1L << b;
                        }
                    }
                }
            }
        }

        int countUnmarked(Cells cells, int k) {
            findMeetingPoints(cells, k);
            int found = 0;
            for (int a = 0; a < cells.count; a++) {
                for (int b = 0; b < cells.count; b++) {
                    boolean isHorn = meetsAsA[a] != UNSET && meetsAsA[a] == meetsAsB[b];
                    if (isHorn && (filled[a] >> b & 1L) == 0L) {
                        found++;
                    }
                }
            }
            return found;
        }

        /** Sets the vertex where each simplex of dimension 1 meets the other one of a horn at k. */
        private void findMeetingPoints(Cells cells, int k) {
            for (int cell = 0; cell < cells.count; cell++) {
                int size = cells.dimensions[cell];
                boolean isEdge = size <= 1;
                int edge = pack(cell, lowBits(size));
                meetsAsA[cell] = isEdge ? cellOf(cells.faceOf(edge, 1, upper(k) - 1)) : UNSET;
                meetsAsB[cell] = isEdge ? cellOf(cells.faceOf(edge, 1, lower(k))) : UNSET;
            }
        }

        /** The lesser of the two numbers among 0, 1, 2 other than k. */
        private static int lower(int k) {
            return k == 0 ? 1 : 0;
        }

        /** The greater of the two numbers among 0, 1, 2 other than k. */
        private static int upper(int k) {
            return k == 2 ? 1 : 2;
        }
    }

    /**
     * Ranks and invariant factors of the boundary matrices.
     *
     * <p>Plain elimination over the integers can outgrow a long. Here nothing does: a matrix has
     * at most 23 independent columns unless its dimension is 1 (then all minors are 0, 1 or -1),
     * each of length at most sqrt(9 + 4), so by Hadamard no minor exceeds 13^11.5 &lt; 2^43.
     * Hence a minor is 0 if it is 0 modulo PRIME, and its absolute value can be read off its
     * residue. The invariant factors divide any minor of the size of the rank that is not 0, so
     * that they can be found modulo that minor; there, 0 stands for the minor itself.
     */
    private static final class Homology {
        /** 2^45 - 55, more than twice any minor. */
        private static final long PRIME = 35184372088777L;
        /** Enough, since two rounds at least halve a pivot and all pivots are below 2^43. */
        private static final int MAX_ROUNDS = 100;

        final Residues matrix = new Residues();
        final long[] factors = new long[MAX_CELLS];
        int rank;
        private long minor;

        int rankOf(Cells cells, int n) {
            matrix.load(cells, n, PRIME);
            eliminate();
            return rank;
        }

        /** Sets the rank and, at the places below it, the invariant factors in ascending order. */
        void findFactors(Cells cells, int n) {
            matrix.load(cells, n, PRIME);
            eliminate();
            matrix.load(cells, n, minor);
            int size = Math.min(matrix.rows, matrix.columns);
            for (int place = 0; place < size; place++) {
                isolatePivot(place);
                factors[place] = gcd(minor, matrix.at(place, place));
            }
            orderByDivision(size);
        }

        /** How many of the invariant factors are 1. */
        int unitFactors() {
            int units = 0;
            for (int place = 0; place < rank; place++) {
                if (factors[place] == 1L) {
                    units++;
                }
            }
            return units;
        }

        /** Finds the rank, and the absolute value of a minor of that size that is not 0. */
        private void eliminate() {
            rank = 0;
            long determinant = 1L;
            for (int column = 0; column < matrix.columns; column++) {
                int row = matrix.rowWithEntry(rank, column);
                if (row != UNSET) {
                    matrix.swapRows(rank, row);
                    determinant = matrix.times(determinant, matrix.at(rank, column));
                    clearBelow(rank, column);
                    rank++;
                }
            }
            minor = Math.min(determinant, PRIME - determinant);
        }

        private void clearBelow(int top, int column) {
            // Fermat: modulo a prime, this power is the inverse.
            long inverse = matrix.power(matrix.at(top, column), PRIME - 2L);
            for (int row = top + 1; row < matrix.rows; row++) {
                matrix.subtractRow(row, top, matrix.times(matrix.at(row, column), inverse));
            }
        }

        /** Makes all entries of the row and the column of a place 0 but for the one on the diagonal. */
        private void isolatePivot(int place) {
            for (int round = 0; round < MAX_ROUNDS && !matrix.isIsolated(place); round++) {
                matrix.moveLeast(place);
                matrix.reduceCross(place);
            }
        }

        /** Replaces pairs of factors by their gcd and lcm until each one divides the next. */
        private void orderByDivision(int size) {
            for (int low = 0; low < size; low++) {
                for (int high = low + 1; high < size; high++) {
                    long common = gcd(factors[low], factors[high]);
                    if (common > 0L) {
                        factors[high] *= factors[low] / common;
                        factors[low] = common;
                    }
                }
            }
        }
    }

    /** A boundary matrix modulo a number from 1 to 2^46; its entries are least residues. */
    private static final class Residues {
        /** The two dimensions share 48 cells, so the product of their numbers is at most 24 * 24. */
        private static final int MAX_ENTRIES = 576;

        final long[] entries = new long[MAX_ENTRIES];
        final int[] placeOf = new int[MAX_CELLS];
        int rows;
        int columns;
        private long modulus = 1L;

        void load(Cells cells, int n, long newModulus) {
            modulus = Math.max(1L, newModulus);
            rows = numberCells(cells, n - 1);
            columns = numberCells(cells, n);
            Arrays.fill(entries, 0L);
            if (rows * columns > MAX_ENTRIES) {
                // 48 cells never come to this; it is tested so that no index below can be wrong.
                rows = 0;
                columns = 0;
                return;
            }
            for (int cell = 0; cell < cells.count; cell++) {
                if (cells.dimensions[cell] == n) {
                    loadColumn(cells, cell);
                }
            }
        }

        /** Numbers the cells of a dimension in their order; returns how many there are. */
        private int numberCells(Cells cells, int size) {
            int found = 0;
            for (int cell = 0; cell < cells.count; cell++) {
                if (cells.dimensions[cell] == size) {
                    placeOf[cell] = found;
                    found++;
                }
            }
            return found;
        }

        private void loadColumn(Cells cells, int cell) {
            int size = cells.dimensions[cell];
            for (int k = 0; size > 0 && k <= size; k++) {
                int face = cellOf(cells.faceAt(cell, k));
                if (cells.has(face) && cells.dimensions[face] == size - 1) {
                    int index = placeOf[face] * columns + placeOf[cell];
                    entries[index] = residue(entries[index] + sign(k));
                }
            }
        }

        private long residue(long value) {
            long rest = value % modulus;
            return rest < 0L ? rest + modulus : rest;
        }

        /** The product of two residues, in pieces of 16 bits so that nothing exceeds 2^63. */
        long times(long a, long b) {
            long product = 0L;
            for (int shift = 32; shift >= 0; shift -= 16) {
                product = ((product << 16) + a * (b >> shift & 0xFFFFL)) % modulus;
            }
            return product;
        }

        long power(long base, long exponent) {
            long result = residue(1L);
            for (int bit = 62; bit >= 0; bit--) {
                result = times(result, result);
                if ((exponent >> bit & 1L) == 1L) {
                    result = times(result, base);
                }
            }
            return result;
        }

        long at(int row, int column) {
            return entries[row * columns + column];
        }

        /** The first row from a given one on whose entry in the column is not 0, or UNSET. */
        int rowWithEntry(int from, int column) {
            for (int row = from; row < rows; row++) {
                if (at(row, column) != 0L) {
                    return row;
                }
            }
            return UNSET;
        }

        void swapRows(int one, int other) {
            for (int column = 0; column < columns; column++) {
                swap(one * columns + column, other * columns + column);
            }
        }

        private void swapColumns(int one, int other) {
            for (int row = 0; row < rows; row++) {
                swap(row * columns + one, row * columns + other);
            }
        }

        private void swap(int one, int other) {
            long kept = entries[one];
            entries[one] = entries[other];
            entries[other] = kept;
        }

        void subtractRow(int target, int source, long factor) {
            for (int column = 0; factor != 0L && column < columns; column++) {
                subtract(target * columns + column, source * columns + column, factor);
            }
        }

        private void subtractColumn(int target, int source, long factor) {
            for (int row = 0; factor != 0L && row < rows; row++) {
                subtract(row * columns + target, row * columns + source, factor);
            }
        }

        private void subtract(int target, int source, long factor) {
            if (entries[source] != 0L) {
                entries[target] = residue(entries[target] - times(factor, entries[source]));
            }
        }

        /** Moves the least entry that is not 0 to a place of the diagonal, from its row or its column. */
        void moveLeast(int place) {
            int bestRow = place;
            int bestColumn = place;
            for (int row = place + 1; row < rows; row++) {
                if (isLess(at(row, place), at(bestRow, place))) {
                    bestRow = row;
                }
            }
            for (int column = place + 1; column < columns; column++) {
                if (isLess(at(place, column), at(bestRow, bestColumn))) {
                    bestRow = place;
                    bestColumn = column;
                }
            }
            swapRows(place, bestRow);
            swapColumns(place, bestColumn);
        }

        /** Whether an entry that is not 0 is less than another one, where 0 counts as greatest. */
        private static boolean isLess(long entry, long other) {
            return entry != 0L && (other == 0L || entry < other);
        }

        boolean isIsolated(int place) {
            for (int row = place + 1; row < rows; row++) {
                if (at(row, place) != 0L) {
                    return false;
                }
            }
            for (int column = place + 1; column < columns; column++) {
                if (at(place, column) != 0L) {
                    return false;
                }
            }
            return true;
        }

        /** Leaves in the row and the column of a place only remainders of division by its entry. */
        void reduceCross(int place) {
            long pivot = at(place, place);
            if (pivot == 0L) {
                return;
            }
            for (int row = place + 1; row < rows; row++) {
                subtractRow(row, place, at(row, place) / pivot);
            }
            for (int column = place + 1; column < columns; column++) {
                subtractColumn(column, place, at(place, column) / pivot);
            }
        }
    }
}
