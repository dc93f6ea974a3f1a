/** A square table of whole numbers and the polynomial that belongs to it. */
public final class MatrixTraits {
    public static final int BAD_PLACE = -1;
    public static final int BAD_ENTRY = -2;
    public static final int BAD_NUMBER = -3;

    private static final int SIZE = 4;
    private static final int CELLS = 16;
    private static final int GREATEST_ENTRY = 9;
    private static final int GREATEST_VALUE_POINT = 1000;
    private static final int GREATEST_POWER = 60;
    private static final int GREATEST_ROOT = 36;
    private static final int GREATEST_RANK_POINT = 40;

    // Entry (row, column) stands at SIZE * row + column, in this array and in those below.
    private final int[] table = new int[CELLS];

    // Room for one call's work: each call fills what it reads, so nothing here outlives a call.
    private final int[] shifted = new int[CELLS];
    private final int[] power = new int[CELLS];
    private final int[] product = new int[CELLS];

    /** All entries are 0. */
    public MatrixTraits() {
        // Java fills a new array with zeros.
    }

    /** Sets an entry; answers 0, BAD_PLACE or BAD_ENTRY. */
    public int set(int row, int column, int entry) {
        if (!isPlace(row, column)) {
            return BAD_PLACE;
        }
        if (!isWithin(entry, GREATEST_ENTRY)) {
            return BAD_ENTRY;
        }
        table[SIZE * row + column] = entry;
        return 0;
    }

    /** Rows and columns exchange their parts. */
    public void flip() {
        for (int row = 0; row < SIZE; row++) {
            // Only the places above the diagonal: going over all of them would flip twice.
            for (int column = row + 1; column < SIZE; column++) {
                exchange(SIZE * row + column, SIZE * column + row);
            }
        }
    }

    /** Exchanges rows a and b, and columns a and b; answers 0 or BAD_PLACE. */
    public int relabel(int a, int b) {
        if (!isPlace(a, b)) {
            return BAD_PLACE;
        }
        for (int column = 0; column < SIZE; column++) {
            exchange(SIZE * a + column, SIZE * b + column);
        }
        for (int row = 0; row < SIZE; row++) {
            exchange(SIZE * row + a, SIZE * row + b);
        }
        return 0;
    }

    /** All entries get another sign. */
    public void negate() {
        for (int cell = 0; cell < CELLS; cell++) {
            table[cell] = -table[cell];
        }
    }

    /** An entry, or BAD_PLACE. */
    public int entry(int row, int column) {
        if (!isPlace(row, column)) {
            return BAD_PLACE;
        }
        return table[SIZE * row + column];
    }

    /** The coefficient of x^k in the polynomial; 0 for a k not in 0 to 4. */
    public int coefficient(int k) {
        // c(k) is the sum of the minors of size 4 - k that lie on the diagonal,
        // with another sign where 4 - k is odd.
        switch (k) {
            case 0:
                return fullDeterminant(table);
            case 1:
                return -sumOfDiagonalThrees();
            case 2:
                return sumOfDiagonalTwos();
            case 3:
                return -diagonalSum(table);
            case 4:
                return 1;
            default:
                return 0;
        }
    }

    /** p(x), wrapping, or BAD_NUMBER. */
    public int valueAt(int x) {
        if (!isWithin(x, GREATEST_VALUE_POINT)) {
            return BAD_NUMBER;
        }
        // The document's determinant has every entry's sign the other way;
        // with four rows, an even number, that leaves its value as it is.
        takeOffDiagonal(x);
        return fullDeterminant(shifted);
    }

    /** The determinant of the table. */
    public int determinant() {
        return fullDeterminant(table);
    }

    /** The signed minor without this row and column, or BAD_PLACE. */
    public int cofactor(int row, int column) {
        if (!isPlace(row, column)) {
            return BAD_PLACE;
        }
        return signedMinor(table, row, column);
    }

    /** The sum of the diagonal of the nth power, or BAD_NUMBER. */
    public int powerTrace(int n) {
        if (!isPower(n)) {
            return BAD_NUMBER;
        }
        raise(n);
        return diagonalSum(power);
    }

    /** Entry (row, column) of the nth power, or BAD_PLACE or BAD_NUMBER. */
    public int powerEntry(int row, int column, int n) {
        if (!isPlace(row, column)) {
            return BAD_PLACE;
        }
        if (!isPower(n)) {
            return BAD_NUMBER;
        }
        raise(n);
        return power[SIZE * row + column];
    }

    /** How many x from -36 to 36 have p(x) = 0. */
    public int roots() {
        // |p(x)| stays below 6 million for these x, so wrapping makes no false root.
        int count = 0;
        for (int x = -GREATEST_ROOT; x <= GREATEST_ROOT; x++) {
            takeOffDiagonal(x);
            if (fullDeterminant(shifted) == 0) {
                count++;
            }
        }
        return count;
    }

    /** The rank of the table with x taken off each diagonal entry, or BAD_NUMBER. */
    public int rankAt(int x) {
        if (!isWithin(x, GREATEST_RANK_POINT)) {
            return BAD_NUMBER;
        }
        // No determinant here passes 7 million, so wrapping makes no false 0.
        takeOffDiagonal(x);
        if (fullDeterminant(shifted) != 0) {
            return 4;
        }
        if (someThreeIsNotZero()) {
            return 3;
        }
        if (someTwoIsNotZero()) {
            return 2;
        }
        return isAllZero(shifted) ? 0 : 1;
    }

    /** Whether the fourth power of the table has only zeros. */
    public boolean vanishes() {
        raise(4);
        return isAllZero(power);
    }

    private static boolean isPlace(int row, int column) {
        return row >= 0 && row < SIZE && column >= 0 && column < SIZE;
    }

    private static boolean isWithin(int number, int greatest) {
        return number >= -greatest && number <= greatest;
    }

    private static boolean isPower(int n) {
        return n >= 0 && n <= GREATEST_POWER;
    }

    private void exchange(int cell, int other) {
        int kept = table[cell];
        table[cell] = table[other];
        table[other] = kept;
    }

    private static boolean isAllZero(int[] cells) {
        for (int cell = 0; cell < CELLS; cell++) {
            if (cells[cell] != 0) {
                return false;
            }
        }
        return true;
    }

    private static int diagonalSum(int[] cells) {
        int sum = 0;
        for (int i = 0; i < SIZE; i++) {
            sum += cells[SIZE * i + i];
        }
        return sum;
    }

    private static int minorOfTwo(int[] cells, int row0, int row1, int column0, int column1) {
        return cells[SIZE * row0 + column0] * cells[SIZE * row1 + column1]
                - cells[SIZE * row0 + column1] * cells[SIZE * row1 + column0];
    }

    private static int minorOfThree(
            int[] cells, int row0, int row1, int row2, int column0, int column1, int column2) {
        int without0 = minorOfTwo(cells, row1, row2, column1, column2);
        int without1 = minorOfTwo(cells, row1, row2, column0, column2);
        int without2 = minorOfTwo(cells, row1, row2, column0, column1);
        return cells[SIZE * row0 + column0] * without0
                - cells[SIZE * row0 + column1] * without1
                + cells[SIZE * row0 + column2] * without2;
    }

    private static int signedMinor(int[] cells, int row, int column) {
        // The three rows and the three columns left, in rising order.
        int row0 = row == 0 ? 1 : 0;
        int row1 = row <= 1 ? 2 : 1;
        int row2 = row <= 2 ? 3 : 2;
        int column0 = column == 0 ? 1 : 0;
        int column1 = column <= 1 ? 2 : 1;
        int column2 = column <= 2 ? 3 : 2;
        int minor = minorOfThree(cells, row0, row1, row2, column0, column1, column2);
        return (row + column) % 2 == 0 ? minor : -minor;
    }

    private static int fullDeterminant(int[] cells) {
        int sum = 0;
        for (int column = 0; column < SIZE; column++) {
            sum += cells[column] * signedMinor(cells, 0, column);
        }
        return sum;
    }

    private int sumOfDiagonalTwos() {
        int sum = 0;
        for (int i = 0; i < SIZE; i++) {
            for (int j = i + 1; j < SIZE; j++) {
                sum += minorOfTwo(table, i, j, i, j);
            }
        }
        return sum;
    }

    private int sumOfDiagonalThrees() {
        int sum = 0;
        for (int i = 0; i < SIZE; i++) {
            sum += signedMinor(table, i, i);
        }
        return sum;
    }

    private void raise(int n) {
        for (int cell = 0; cell < CELLS; cell++) {
            power[cell] = 0;
        }
        for (int i = 0; i < SIZE; i++) {
            power[SIZE * i + i] = 1;
        }
        for (int step = 0; step < n; step++) {
            multiplyPowerByTable();
        }
    }

    private void multiplyPowerByTable() {
        for (int row = 0; row < SIZE; row++) {
            for (int column = 0; column < SIZE; column++) {
                product[SIZE * row + column] = rowTimesColumn(row, column);
            }
        }
        // Only now: the old power's entries were needed until the last product stood.
        for (int cell = 0; cell < CELLS; cell++) {
            power[cell] = product[cell];
        }
    }

    private int rowTimesColumn(int row, int column) {
        int sum = 0;
        for (int k = 0; k < SIZE; k++) {
            sum += power[SIZE * row + k] * table[SIZE * k + column];
        }
        return sum;
    }

    private void takeOffDiagonal(int x) {
        for (int cell = 0; cell < CELLS; cell++) {
            shifted[cell] = table[cell];
        }
        for (int i = 0; i < SIZE; i++) {
            shifted[SIZE * i + i] -= x;
        }
    }

    private boolean someThreeIsNotZero() {
        for (int row = 0; row < SIZE; row++) {
            for (int column = 0; column < SIZE; column++) {
                if (signedMinor(shifted, row, column) != 0) {
                    return true;
                }
            }
        }
        return false;
    }

    private boolean someTwoIsNotZero() {
        for (int row0 = 0; row0 < SIZE; row0++) {
            for (int row1 = row0 + 1; row1 < SIZE; row1++) {
                if (someTwoInRowsIsNotZero(row0, row1)) {
                    return true;
                }
            }
        }
        return false;
    }

    private boolean someTwoInRowsIsNotZero(int row0, int row1) {
        for (int column0 = 0; column0 < SIZE; column0++) {
            for (int column1 = column0 + 1; column1 < SIZE; column1++) {
                if (minorOfTwo(shifted, row0, row1, column0, column1) != 0) {
                    return true;
                }
            }
        }
        return false;
    }
}
