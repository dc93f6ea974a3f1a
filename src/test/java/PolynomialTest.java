/** Promises 7 to 10 and 13: coefficient, valueAt, determinant, cofactor, roots. */
public final class PolynomialTest {
    public static void main(String[] args) {
        coefficient();
        coefficientOfOtherPowers();
        valueAt();
        valueAtEnds();
        valueAtOtherNumbers();
        determinant();
        determinantEnds();
        cofactor();
        cofactorEnds();
        cofactorBadPlace();
        roots();
        rootsAtEnds();
        rootsCountedOnce();
        Check.end();
    }

    private static void coefficient() {
        // (x - 1)(x - 2)(x - 3)(x + 5) = x^4 - x^3 - 19 x^2 + 49 x - 30
        MatrixTraits traits = Check.table(1, 7, -8, 9, 0, 2, 4, -3, 0, 0, 3, 5, 0, 0, 0, -5);
        dueCoefficients(traits, -30, 49, -19, -1);
        traits.negate();
        dueCoefficients(traits, -30, -49, -19, 1);
        dueCoefficients(new MatrixTraits(), 0, 0, 0, 0);
        // Each coefficient can stand alone: the last row tells them.
        dueCoefficients(Check.table(0, 1, 0, 0, 0, 0, 1, 0, 0, 0, 0, 1, 2, -3, 4, -5), -2, 3, -4, 5);
    }

    private static void coefficientOfOtherPowers() {
        MatrixTraits traits = Check.table(Check.SOME);
        for (int k : Check.notIn(0, 4)) {
            Check.due("coefficient(" + k + ")", traits.coefficient(k), 0);
            Check.due("new: coefficient(" + k + ")", new MatrixTraits().coefficient(k), 0);
        }
    }

    private static void dueCoefficients(MatrixTraits traits, int c0, int c1, int c2, int c3) {
        Check.due("coefficient(0)", traits.coefficient(0), c0);
        Check.due("coefficient(1)", traits.coefficient(1), c1);
        Check.due("coefficient(2)", traits.coefficient(2), c2);
        Check.due("coefficient(3)", traits.coefficient(3), c3);
        Check.due("coefficient(4)", traits.coefficient(4), 1);
    }

    private static void valueAt() {
        for (int x = -1000; x <= 1000; x++) {
            // A new object each time: after 512 calls on one, its answers are free.
            MatrixTraits traits = Check.table(1, 7, -8, 9, 0, 2, 4, -3, 0, 0, 3, 5, 0, 0, 0, -5);
            long value = (x - 1L) * (x - 2) * (x - 3) * (x + 5);
            Check.due("valueAt(" + x + ")", traits.valueAt(x), (int) value);
        }
    }

    private static void valueAtEnds() {
        Check.due("new: valueAt(0)", new MatrixTraits().valueAt(0), 0);
        for (int x : new int[] {-1000, -999, 999, 1000}) {
            int power = (int) ((long) x * x * x * x);
            Check.due("new: valueAt(" + x + ")", new MatrixTraits().valueAt(x), power);
            Check.due("valueAt(" + x + ")", Check.table(Check.SOME).valueAt(x),
                    Model.of(Check.SOME).valueAt(x).intValue());
        }
    }

    private static void valueAtOtherNumbers() {
        MatrixTraits traits = Check.table(Check.SOME);
        MatrixTraits zero = new MatrixTraits();
        for (int x : Check.notIn(-1000, 1000)) {
            Check.due("valueAt(" + x + ")", traits.valueAt(x), MatrixTraits.BAD_NUMBER);
            Check.due("new: valueAt(" + x + ")", zero.valueAt(x), MatrixTraits.BAD_NUMBER);
        }
    }

    private static void determinant() {
        Check.due("new: determinant()", new MatrixTraits().determinant(), 0);
        Check.due("diagonal: determinant()", Check.diagonal(2, -3, 5, 7).determinant(), -210);
        // One entry from each row and column, with one pair, five and six pairs out of order.
        Check.due("one pair", Check.table(0, 2, 0, 0, 3, 0, 0, 0, 0, 0, 5, 0, 0, 0, 0, 7)
                .determinant(), -210);
        Check.due("five pairs", Check.table(0, 0, 0, 2, 0, 0, 3, 0, 5, 0, 0, 0, 0, 7, 0, 0)
                .determinant(), -210);
        Check.due("six pairs", Check.table(0, 0, 0, 2, 0, 0, 3, 0, 0, 5, 0, 0, 7, 0, 0, 0)
                .determinant(), 210);
        Check.due("all 9: determinant()", Check.allEqual(9).determinant(), 0);
    }

    /** The greatest and the least that entries from -9 to 9 reach: 16 * 9^4 and its opposite. */
    private static void determinantEnds() {
        MatrixTraits greatest = Check.table(9, 9, 9, 9, 9, -9, 9, -9, 9, 9, -9, -9, 9, -9, -9, 9);
        Check.due("greatest: determinant()", greatest.determinant(), 104976);
        Check.due("greatest: coefficient(0)", greatest.coefficient(0), 104976);
        greatest.relabel(1, 2);
        Check.due("relabelled: determinant()", greatest.determinant(), 104976);
        MatrixTraits least = Check.table(9, -9, 9, -9, 9, 9, 9, 9, 9, 9, -9, -9, 9, -9, -9, 9);
        Check.due("least: determinant()", least.determinant(), -104976);
        Check.due("least: coefficient(0)", least.coefficient(0), -104976);
    }

    private static void cofactor() {
        MatrixTraits traits = Check.table(2, 1, 0, 3, -1, 4, 2, 0, 5, 0, 1, -2, 0, 3, -3, 1);
        int[] due = {-32, 5, -26, -93, 14, -55, -52, 9, -52, -13, 0, 39, -8, -41, 78, 19};
        for (int cell = 0; cell < 16; cell++) {
            int row = cell / 4;
            int column = cell % 4;
            String call = "cofactor(" + row + ", " + column + ")";
            Check.due(call, traits.cofactor(row, column), due[cell]);
        }
        Check.due("new: cofactor(1, 2)", new MatrixTraits().cofactor(1, 2), 0);
    }

    /** The greatest and the least determinants of three rows: 4 * 9^3 and its opposite. */
    private static void cofactorEnds() {
        MatrixTraits traits = Check.table(9, 9, 9, 9, 9, -9, 9, -9, 9, 9, -9, -9, 9, -9, -9, 9);
        // The table's rows stand at right angles to one another, so a cofactor has its entry's sign.
        Check.eachPlace((row, column) -> {
            String call = "ends: cofactor(" + row + ", " + column + ")";
            Check.due(call, traits.cofactor(row, column), traits.entry(row, column) / 9 * 2916);
        });
    }

    private static void cofactorBadPlace() {
        Check.eachBadPlace((row, column) -> {
            String call = "cofactor(" + row + ", " + column + ")";
            Check.due(call, Check.table(Check.SOME).cofactor(row, column), MatrixTraits.BAD_PLACE);
            Check.due("new: " + call, new MatrixTraits().cofactor(row, column),
                    MatrixTraits.BAD_PLACE);
        });
    }

    private static void roots() {
        Check.due("new: roots()", new MatrixTraits().roots(), 1);
        Check.due("four: roots()", Check.diagonal(-9, 9, 0, 1).roots(), 4);
        // x^4 + 1 and x^4 - 2 have none among the whole numbers.
        Check.due("x^4 + 1: roots()",
                Check.table(0, 1, 0, 0, 0, 0, 1, 0, 0, 0, 0, 1, -1, 0, 0, 0).roots(), 0);
        Check.due("x^4 - 2: roots()",
                Check.table(0, 1, 0, 0, 0, 0, 1, 0, 0, 0, 0, 1, 2, 0, 0, 0).roots(), 0);
    }

    /** 36 and -36 are the farthest that a root can lie out. */
    private static void rootsAtEnds() {
        Check.due("all 9: roots()", Check.allEqual(9).roots(), 2);
        Check.due("all 9: valueAt(36)", Check.allEqual(9).valueAt(36), 0);
        Check.due("all -9: roots()", Check.allEqual(-9).roots(), 2);
        Check.due("all -9: valueAt(-36)", Check.allEqual(-9).valueAt(-36), 0);
        // With 8 in one row: 35 and 0.
        Check.due("all 9 but a row: roots()",
                Check.table(9, 9, 9, 9, 9, 9, 9, 9, 9, 9, 9, 9, 8, 8, 8, 8).roots(), 2);
    }

    private static void rootsCountedOnce() {
        for (int x = -9; x <= 9; x++) {
            Check.due("four times " + x, Check.diagonal(x, x, x, x).roots(), 1);
        }
        Check.due("three times: roots()", Check.diagonal(9, 9, -9, 9).roots(), 2);
        Check.due("two double ones: roots()", Check.diagonal(3, -3, -3, 3).roots(), 2);
        Check.due("a double one: roots()", Check.diagonal(3, 3, -4, 8).roots(), 3);
    }
}
