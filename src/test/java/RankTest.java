/** Promise 14: rankAt. */
public final class RankTest {
    public static void main(String[] args) {
        diagonals();
        singleMinors();
        dependentRows();
        ends();
        otherNumbers();
        Check.end();
    }

    private static void diagonals() {
        MatrixTraits zero = new MatrixTraits();
        Check.due("new: rankAt(0)", zero.rankAt(0), 0);
        Check.due("new: rankAt(1)", zero.rankAt(1), 4);
        MatrixTraits traits = Check.diagonal(5, 5, 5, -2);
        Check.due("diagonal: rankAt(5)", traits.rankAt(5), 1);
        Check.due("diagonal: rankAt(-2)", traits.rankAt(-2), 3);
        Check.due("diagonal: rankAt(2)", traits.rankAt(2), 4);
        Check.due("same: rankAt(-9)", Check.diagonal(-9, -9, -9, -9).rankAt(-9), 0);
        Check.due("pairs: rankAt(3)", Check.diagonal(3, 4, 3, 4).rankAt(3), 2);
    }

    /** Only one minor of its size isn't 0, in each of the places where it can lie. */
    private static void singleMinors() {
        for (int rows = 0; rows < 16; rows++) {
            for (int columns = 0; columns < 16; columns++) {
                int size = Integer.bitCount(rows);
                if (size == Integer.bitCount(columns)) {
                    String call = "rows " + rows + ", columns " + columns + ": rankAt(0)";
                    Check.due(call, placed(rows, columns).rankAt(0), size);
                }
            }
        }
    }

    private static MatrixTraits placed(int rows, int columns) {
        MatrixTraits traits = new MatrixTraits();
        int columnsLeft = columns;
        for (int row = 0; row < 4; row++) {
            if ((rows >> row & 1) == 1) {
                traits.set(row, Integer.numberOfTrailingZeros(columnsLeft), row + 1);
                columnsLeft &= columnsLeft - 1;
            }
        }
        return traits;
    }

    private static void dependentRows() {
        Check.due("all 9: rankAt(0)", Check.allEqual(9).rankAt(0), 1);
        Check.due("all 9: rankAt(36)", Check.allEqual(9).rankAt(36), 3);
        Check.due("all -9: rankAt(-36)", Check.allEqual(-9).rankAt(-36), 3);
        Check.due("steps: rankAt(0)",
                Check.table(1, 2, 3, 4, 2, 3, 4, 5, 3, 4, 5, 6, 4, 5, 6, 7).rankAt(0), 2);
        // The last row is the sum of the others.
        Check.due("sum: rankAt(0)",
                Check.table(1, 2, 0, 1, 0, 1, 3, 1, 2, 0, 1, 1, 3, 3, 4, 3).rankAt(0), 3);
    }

    /** Every x from -40 to 40; past 36 no table has a determinant of 0. */
    private static void ends() {
        int[][] tables = {
            new int[16], Check.SOME, {9, 9, 9, 9, 9, 9, 9, 9, 9, 9, 9, 9, 9, 9, 9, 9},
            {-9, 0, 0, 0, 0, -9, 0, 0, 0, 0, -9, 0, 0, 0, 0, -9}
        };
        for (int[] entries : tables) {
            MatrixTraits traits = Check.table(entries);
            Model model = Model.of(entries);
            for (int x = -40; x <= 40; x++) {
                int due = x < -36 || x > 36 ? 4 : model.rankAt(x);
                Check.due(entries[0] + " ..: rankAt(" + x + ")", traits.rankAt(x), due);
            }
        }
    }

    private static void otherNumbers() {
        MatrixTraits traits = Check.allEqual(9);
        MatrixTraits zero = new MatrixTraits();
        for (int x : Check.notIn(-40, 40)) {
            Check.due("rankAt(" + x + ")", traits.rankAt(x), MatrixTraits.BAD_NUMBER);
            Check.due("new: rankAt(" + x + ")", zero.rankAt(x), MatrixTraits.BAD_NUMBER);
        }
    }
}
