import java.math.BigInteger;
import java.util.ArrayList;
import java.util.Arrays;
import java.util.List;

/**
 * The document's words, read as literally as possible: simplices are sequences of numbers,
 * matrices hold BigIntegers, horns and fillers are tried one by one. Slow, but its answers are
 * found in another way than those of the class.
 */
final class Model {
    static final int NO_SUCH_CELL = -101;
    static final int BAD_DIMENSION = -102;
    static final int BAD_MASK = -103;
    static final int BAD_INDEX = -104;
    static final int FULL = -105;
    static final int NO_DRAFT = -106;
    static final int INCOMPLETE = -107;
    static final int IDENTITY = -108;
    static final int NONE = -109;

    /** A simplex: its cell and its sequence. */
    static final class Simplex {
        final int cell;
        final int[] sequence;

        Simplex(int cell, int[] sequence) {
            this.cell = cell;
            this.sequence = sequence;
        }

        int mask() {
            int mask = 0;
            for (int j = 0; j + 1 < sequence.length; j++) {
                if (sequence[j + 1] > sequence[j]) {
                    mask += 1 << j;
                }
            }
            return mask;
        }

        boolean same(Simplex other) {
            return cell == other.cell && Arrays.equals(sequence, other.sequence);
        }
    }

    /** A cell: its dimension and its faces, none for a vertex. */
    static final class Cell {
        final int dimension;
        final Simplex[] faces;

        Cell(int dimension, Simplex[] faces) {
            this.dimension = dimension;
            this.faces = faces;
        }
    }

    List<Cell> cells = new ArrayList<>();
    List<Cell> saved = new ArrayList<>();
    Simplex[] draft = null;

    // ---- simplices

    /** The sequence of a mask, or null if it is none of a simplex of dimension n over a cell of dimension m. */
    static int[] sequence(int n, int m, int mask) {
        if (mask < 0 || mask >= Math.pow(2, n)) {
            return null;
        }
        int[] sequence = new int[n + 1];
        for (int j = 0; j < n; j++) {
            sequence[j + 1] = sequence[j] + mask / (1 << j) % 2;
        }
        return sequence[n] == m ? sequence : null;
    }

    static Simplex face(List<Cell> cells, Simplex simplex, int i) {
        int[] rest = new int[simplex.sequence.length - 1];
        for (int j = 0; j < rest.length; j++) {
            rest[j] = simplex.sequence[j < i ? j : j + 1];
        }
        int v = simplex.sequence[i];
        if (Arrays.stream(rest).anyMatch(u -> u == v)) {
            return new Simplex(simplex.cell, rest);
        }
        Simplex face = cells.get(simplex.cell).faces[v];
        for (int j = 0; j < rest.length; j++) {
            rest[j] = face.sequence[rest[j] < v ? rest[j] : rest[j] - 1];
        }
        return new Simplex(face.cell, rest);
    }

    static List<Simplex> simplices(List<Cell> cells, int n) {
        List<Simplex> all = new ArrayList<>();
        for (int cell = 0; cell < cells.size(); cell++) {
            for (int mask = 0; mask < 1 << n; mask++) {
                int[] sequence = sequence(n, cells.get(cell).dimension, mask);
                if (sequence != null) {
                    all.add(new Simplex(cell, sequence));
                }
            }
        }
        return all;
    }

    private int simplexError(int cell, int n, int mask, int least, int greatest) {
        if (cell < 0 || cell >= cells.size()) {
            return NO_SUCH_CELL;
        }
        if (n < least || n > greatest) {
            return BAD_DIMENSION;
        }
        return sequence(n, cells.get(cell).dimension, mask) == null ? BAD_MASK : 0;
    }

    private Simplex simplex(int cell, int n, int mask) {
        return new Simplex(cell, sequence(n, cells.get(cell).dimension, mask));
    }

    int faceCell(int cell, int n, int mask, int i) {
        int error = simplexError(cell, n, mask, 1, 6);
        if (error != 0) {
            return error;
        }
        return i < 0 || i > n ? BAD_INDEX : face(cells, simplex(cell, n, mask), i).cell;
    }

    int faceMask(int cell, int n, int mask, int i) {
        int error = simplexError(cell, n, mask, 1, 6);
        if (error != 0) {
            return error;
        }
        return i < 0 || i > n ? BAD_INDEX : face(cells, simplex(cell, n, mask), i).mask();
    }

    int degeneracyMask(int cell, int n, int mask, int i) {
        int error = simplexError(cell, n, mask, 0, 5);
        if (error != 0) {
            return error;
        }
        if (i < 0 || i > n) {
            return BAD_INDEX;
        }
        int[] old = simplex(cell, n, mask).sequence;
        int[] longer = new int[n + 2];
        for (int j = 0; j < longer.length; j++) {
            longer[j] = old[j <= i ? j : j - 1];
        }
        return new Simplex(cell, longer).mask();
    }

    int vertex(int cell, int n, int mask, int j) {
        int error = simplexError(cell, n, mask, 0, 6);
        if (error != 0) {
            return error;
        }
        if (j < 0 || j > n) {
            return BAD_INDEX;
        }
        Simplex left = simplex(cell, n, mask);
        for (int i = n; i >= 0; i--) {
            left = i == j ? left : face(cells, left, i);
        }
        return left.cell;
    }

    int simplexCount(int n) {
        return n < 0 || n > 6 ? BAD_DIMENSION : simplices(cells, n).size();
    }

    // ---- cells

    int addVertex() {
        if (cells.size() >= 48) {
            return FULL;
        }
        cells.add(new Cell(0, new Simplex[0]));
        return cells.size() - 1;
    }

    int beginCell(int dimension) {
        if (dimension < 1 || dimension > 4) {
            return BAD_DIMENSION;
        }
        draft = new Simplex[dimension + 1];
        return 1;
    }

    int setFace(int k, int cell, int mask) {
        if (draft == null) {
            return NO_DRAFT;
        }
        if (k < 0 || k >= draft.length) {
            return BAD_INDEX;
        }
        int error = simplexError(cell, draft.length - 2, mask, 0, 6);
        if (error != 0) {
            return error;
        }
        draft[k] = simplex(cell, draft.length - 2, mask);
        return 1;
    }

    int endCell() {
        if (draft == null) {
            return NO_DRAFT;
        }
        for (Simplex face : draft) {
            if (face == null) {
                return INCOMPLETE;
            }
        }
        if (draft.length > 2 && !identities(draft)) {
            return IDENTITY;
        }
        if (cells.size() >= 48) {
            return FULL;
        }
        cells.add(new Cell(draft.length - 1, draft));
        draft = null;
        return cells.size() - 1;
    }

    private boolean identities(Simplex[] faces) {
        for (int i = 0; i < faces.length; i++) {
            for (int j = i + 1; j < faces.length; j++) {
                if (!fit(faces[i], i, faces[j], j)) {
                    return false;
                }
            }
        }
        return true;
    }

    /** Whether two faces of a cell, with i less than j, satisfy their identity. */
    boolean fit(Simplex faceI, int i, Simplex faceJ, int j) {
        return face(cells, faceJ, i).same(face(cells, faceI, j - 1));
    }

    private int replace(List<Cell> by) {
        cells = by;
        draft = null;
        return by.size();
    }

    int clear() {
        int removed = cells.size();
        replace(new ArrayList<>());
        return removed;
    }

    int cellCount(int dimension) {
        return dimension < 0 || dimension > 4 ? BAD_DIMENSION : cellsOf(dimension).size();
    }

    private List<Integer> cellsOf(int dimension) {
        List<Integer> found = new ArrayList<>();
        for (int cell = 0; cell < cells.size(); cell++) {
            if (cells.get(cell).dimension == dimension) {
                found.add(cell);
            }
        }
        return found;
    }

    int dimension(int cell) {
        return cell < 0 || cell >= cells.size() ? NO_SUCH_CELL : cells.get(cell).dimension;
    }

    // ---- invariants

    int eulerCharacteristic() {
        return cellsOf(0).size() - cellsOf(1).size() + cellsOf(2).size() - cellsOf(3).size() + cellsOf(4).size();
    }

    int partCount() {
        List<Integer> left = new ArrayList<>(cellsOf(0));
        int parts = 0;
        while (!left.isEmpty()) {
            parts++;
            List<Integer> part = new ArrayList<>(List.of(left.remove(0)));
            for (int at = 0; at < part.size(); at++) {
                for (int edge : cellsOf(1)) {
                    int zero = cells.get(edge).faces[0].cell;
                    int one = cells.get(edge).faces[1].cell;
                    int reached = zero == part.get(at) ? one : one == part.get(at) ? zero : -1;
                    if (left.remove((Integer) reached)) {
                        part.add(reached);
                    }
                }
            }
        }
        return parts;
    }

    int incidence(int cell, int other) {
        if (dimension(cell) < 0 || dimension(other) < 0) {
            return NO_SUCH_CELL;
        }
        int sum = 0;
        Simplex[] faces = cells.get(cell).faces;
        for (int k = 0; k < faces.length; k++) {
            if (faces[k].cell == other && dimension(other) == dimension(cell) - 1) {
                sum += k % 2 == 0 ? 1 : -1;
            }
        }
        return sum;
    }

    /** The invariant factors of the boundary matrix of dimension n, as many as its rank. */
    List<BigInteger> factors(int n) {
        List<Integer> rows = cellsOf(n - 1);
        List<Integer> columns = cellsOf(n);
        BigInteger[][] matrix = new BigInteger[rows.size()][columns.size()];
        for (int row = 0; row < rows.size(); row++) {
            for (int column = 0; column < columns.size(); column++) {
                matrix[row][column] = BigInteger.valueOf(incidence(columns.get(column), rows.get(row)));
            }
        }
        return SmithForm.factors(matrix);
    }

    private List<BigInteger> torsions(int n) {
        List<BigInteger> found = factors(n + 1);
        found.removeIf(factor -> factor.equals(BigInteger.ONE));
        return found;
    }

    int betti(int n) {
        return n < 0 || n > 4 ? BAD_DIMENSION : cellsOf(n).size() - factors(n).size() - factors(n + 1).size();
    }

    int torsionCount(int n) {
        return n < 0 || n > 4 ? BAD_DIMENSION : torsions(n).size();
    }

    long torsion(int n, int k) {
        if (n < 0 || n > 4) {
            return BAD_DIMENSION;
        }
        if (k < 0) {
            return BAD_INDEX;
        }
        List<BigInteger> list = torsions(n);
        return k >= list.size() ? NONE : list.get(k).longValueExact();
    }

    // ---- horns

    private int horns(int k, boolean unfilledOnly) {
        if (k < 0 || k > 2) {
            return BAD_INDEX;
        }
        int i = k == 0 ? 1 : 0;
        int j = k == 2 ? 1 : 2;
        List<Simplex> edges = simplices(cells, 1);
        List<Simplex> triangles = simplices(cells, 2);
        int found = 0;
        for (Simplex a : edges) {
            for (Simplex b : edges) {
                if (face(cells, b, i).same(face(cells, a, j - 1)) && !(unfilledOnly && filled(triangles, i, a, j, b))) {
                    found++;
                }
            }
        }
        return found;
    }

    private boolean filled(List<Simplex> triangles, int i, Simplex a, int j, Simplex b) {
        for (Simplex filler : triangles) {
            if (face(cells, filler, i).same(a) && face(cells, filler, j).same(b)) {
                return true;
            }
        }
        return false;
    }

    int hornCount(int k) {
        return horns(k, false);
    }

    int unfilledCount(int k) {
        return horns(k, true);
    }

    // ---- ready-made sets, products

    int loadSimplex(int n) {
        if (n < 0 || n > 4) {
            return BAD_DIMENSION;
        }
        List<String> subsets = new ArrayList<>();
        for (int subset = 1; subset < 1 << (n + 1); subset++) {
            StringBuilder elements = new StringBuilder();
            for (int element = 0; element <= n; element++) {
                elements.append(subset / (1 << element) % 2 == 1 ? String.valueOf(element) : "");
            }
            subsets.add(elements.toString());
        }
        subsets.sort((s, t) -> s.length() == t.length() ? s.compareTo(t) : s.length() - t.length());
        List<Cell> all = new ArrayList<>();
        for (String subset : subsets) {
            int m = subset.length() - 1;
            Simplex[] faces = new Simplex[m == 0 ? 0 : m + 1];
            for (int k = 0; k < faces.length; k++) {
                int face = subsets.indexOf(subset.substring(0, k) + subset.substring(k + 1));
                faces[k] = new Simplex(face, sequence(m - 1, m - 1, (1 << (m - 1)) - 1));
            }
            all.add(new Cell(m, faces));
        }
        return replace(all);
    }

    int loadSphere(int n) {
        if (n < 1 || n > 4) {
            return BAD_DIMENSION;
        }
        Simplex[] faces = new Simplex[n + 1];
        Arrays.fill(faces, new Simplex(0, new int[n]));
        List<Cell> all = new ArrayList<>();
        all.add(new Cell(0, new Simplex[0]));
        all.add(new Cell(n, faces));
        return replace(all);
    }

    int save() {
        saved = new ArrayList<>(cells);
        return saved.size();
    }

    private static int greatestDimension(List<Cell> cells) {
        return cells.stream().mapToInt(cell -> cell.dimension).max().orElse(0);
    }

    int product() {
        if (greatestDimension(cells) + greatestDimension(saved) > 4) {
            return BAD_DIMENSION;
        }
        List<Simplex[]> pairs = new ArrayList<>();
        for (int n = 0; n <= 4; n++) {
            for (Simplex first : simplices(cells, n)) {
                for (Simplex second : simplices(saved, n)) {
                    if ((first.mask() | second.mask()) == (1 << n) - 1) {
                        pairs.add(new Simplex[] {first, second});
                    }
                }
            }
        }
        if (pairs.size() > 48) {
            return FULL;
        }
        List<Cell> all = new ArrayList<>();
        for (Simplex[] pair : pairs) {
            int n = pair[0].sequence.length - 1;
            Simplex[] faces = new Simplex[n == 0 ? 0 : n + 1];
            for (int i = 0; i < faces.length; i++) {
                faces[i] = faceOfPair(pairs, face(cells, pair[0], i), face(saved, pair[1], i));
            }
            all.add(new Cell(n, faces));
        }
        return replace(all);
    }

    /** Drops the places at which neither sequence steps, and looks the pair that is left up. */
    private static Simplex faceOfPair(List<Simplex[]> pairs, Simplex one, Simplex other) {
        List<Integer> kept = new ArrayList<>(List.of(0));
        int[] sequence = new int[one.sequence.length];
        for (int j = 1; j < sequence.length; j++) {
            boolean steps = one.sequence[j] > one.sequence[j - 1] || other.sequence[j] > other.sequence[j - 1];
            sequence[j] = sequence[j - 1] + (steps ? 1 : 0);
            if (steps) {
                kept.add(j);
            }
        }
        Simplex first = new Simplex(one.cell, kept.stream().mapToInt(j -> one.sequence[j]).toArray());
        Simplex second = new Simplex(other.cell, kept.stream().mapToInt(j -> other.sequence[j]).toArray());
        for (int pair = 0; pair < pairs.size(); pair++) {
            if (pairs.get(pair)[0].same(first) && pairs.get(pair)[1].same(second)) {
                return new Simplex(pair, sequence);
            }
        }
        throw new IllegalStateException("a face of a product cell lies over no product cell");
    }
}
