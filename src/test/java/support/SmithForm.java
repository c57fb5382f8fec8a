import java.math.BigInteger;
import java.util.ArrayList;
import java.util.List;

/** The Smith normal form by elimination over the integers, without any bound on their size. */
final class SmithForm {
    private final BigInteger[][] matrix;
    private final int rows;
    private final int columns;

    private SmithForm(BigInteger[][] matrix) {
        this.matrix = matrix;
        this.rows = matrix.length;
        this.columns = rows == 0 ? 0 : matrix[0].length;
    }

    /** The invariant factors, as many as the rank, each of which divides the next one. */
    static List<BigInteger> factors(BigInteger[][] matrix) {
        SmithForm form = new SmithForm(matrix);
        List<BigInteger> found = new ArrayList<>();
        int place = 0;
        while (place < Math.min(form.rows, form.columns) && form.choosePivot(place)) {
            if (form.clearCross(place) && form.dividesRest(place)) {
                found.add(matrix[place][place].abs());
                place++;
            }
        }
        return found;
    }

    private boolean choosePivot(int place) {
        int bestRow = -1;
        int bestColumn = -1;
        for (int row = place; row < rows; row++) {
            for (int column = place; column < columns; column++) {
                BigInteger entry = matrix[row][column].abs();
                if (entry.signum() != 0 && (bestRow < 0 || entry.compareTo(matrix[bestRow][bestColumn].abs()) < 0)) {
                    bestRow = row;
                    bestColumn = column;
                }
            }
        }
        if (bestRow < 0) {
            return false;
        }
        BigInteger[] kept = matrix[place];
        matrix[place] = matrix[bestRow];
        matrix[bestRow] = kept;
        for (BigInteger[] row : matrix) {
            BigInteger entry = row[place];
            row[place] = row[bestColumn];
            row[bestColumn] = entry;
        }
        return true;
    }

    private boolean clearCross(int place) {
        boolean clear = true;
        for (int row = place + 1; row < rows; row++) {
            addRow(row, place, matrix[row][place].divide(matrix[place][place]).negate());
            clear &= matrix[row][place].signum() == 0;
        }
        for (int column = place + 1; column < columns; column++) {
            BigInteger factor = matrix[place][column].divide(matrix[place][place]);
            for (BigInteger[] row : matrix) {
                row[column] = row[column].subtract(factor.multiply(row[place]));
            }
            clear &= matrix[place][column].signum() == 0;
        }
        return clear;
    }

    private void addRow(int target, int source, BigInteger factor) {
        for (int column = 0; column < columns; column++) {
            matrix[target][column] = matrix[target][column].add(factor.multiply(matrix[source][column]));
        }
    }

    /** If the pivot does not divide an entry, brings that entry's row into the pivot's row. */
    private boolean dividesRest(int place) {
        for (int row = place + 1; row < rows; row++) {
            for (int column = place + 1; column < columns; column++) {
                if (matrix[row][column].mod(matrix[place][place].abs()).signum() != 0) {
                    addRow(place, row, BigInteger.ONE);
                    return false;
                }
            }
        }
        return true;
    }
}
