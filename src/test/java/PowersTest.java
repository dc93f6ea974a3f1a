/** Promises 11, 12 and 15: powerTrace, powerEntry, vanishes. */
public final class PowersTest {
    public static void main(String[] args) {
        powerTrace();
        powerTraceOtherNumbers();
        powerEntry();
        powerEntryBadPlace();
        powerEntryBadNumber();
        powerEntryTestsThePlaceFirst();
        vanishes();
        vanishesOffTheDiagonal();
        Check.end();
    }

    private static void powerTrace() {
        Check.due("new: powerTrace(0)", new MatrixTraits().powerTrace(0), 4);
        Check.due("new: powerTrace(1)", new MatrixTraits().powerTrace(1), 0);
        MatrixTraits traits = Check.diagonal(3, -2, 9, 1);
        int a = 1;
        int b = 1;
        int c = 1;
        for (int n = 0; n <= 60; n++) {
            Check.due("powerTrace(" + n + ")", traits.powerTrace(n), a + b + c + 1);
            a *= 3;
            b *= -2;
            c *= 9;
        }
        Check.due("new: powerTrace(60)", new MatrixTraits().powerTrace(60), 0);
    }

    private static void powerTraceOtherNumbers() {
        MatrixTraits traits = Check.table(Check.SOME);
        MatrixTraits zero = new MatrixTraits();
        for (int n : Check.notIn(0, 60)) {
            Check.due("powerTrace(" + n + ")", traits.powerTrace(n), MatrixTraits.BAD_NUMBER);
            Check.due("new: powerTrace(" + n + ")", zero.powerTrace(n), MatrixTraits.BAD_NUMBER);
        }
    }

    private static void powerEntry() {
        // The top left corner's powers hold the Fibonacci numbers; the rest turns around.
        MatrixTraits traits = Check.table(1, 1, 0, 0, 1, 0, 0, 0, 0, 0, 0, 1, 0, 0, -1, 0);
        int before = 1;
        int now = 0;
        for (int n = 0; n <= 60; n++) {
            Check.due("powerEntry(0, 0, " + n + ")", traits.powerEntry(0, 0, n), before + now);
            Check.due("powerEntry(0, 1, " + n + ")", traits.powerEntry(0, 1, n), now);
            Check.due("powerEntry(1, 0, " + n + ")", traits.powerEntry(1, 0, n), now);
            Check.due("powerEntry(1, 1, " + n + ")", traits.powerEntry(1, 1, n), before);
            int turn = n % 2 == 0 ? 0 : n % 4 == 1 ? 1 : -1;
            Check.due("powerEntry(2, 3, " + n + ")", traits.powerEntry(2, 3, n), turn);
            Check.due("powerEntry(3, 2, " + n + ")", traits.powerEntry(3, 2, n), -turn);
            Check.due("powerEntry(0, 3, " + n + ")", traits.powerEntry(0, 3, n), 0);
            int next = before + now;
            before = now;
            now = next;
        }
    }

    private static void powerEntryBadPlace() {
        Check.eachBadPlace((row, column) -> {
            MatrixTraits traits = Check.allEqual(2);
            for (int n : new int[] {0, 1, 60}) {
                String call = "powerEntry(" + row + ", " + column + ", " + n + ")";
                Check.due(call, traits.powerEntry(row, column, n), MatrixTraits.BAD_PLACE);
            }
        });
    }

    /** In each place, with the last good numbers beside the bad ones. */
    private static void powerEntryBadNumber() {
        Check.eachPlace((row, column) -> {
            MatrixTraits ones = Check.table(0, 1, 0, 0, 0, 0, 1, 0, 0, 0, 0, 1, 1, 0, 0, 0);
            String place = "powerEntry(" + row + ", " + column + ", ";
            int due = row.equals(column) ? 1 : 0;
            // Four steps around bring every row back, and so do sixty.
            Check.due(place + "0)", ones.powerEntry(row, column, 0), due);
            Check.due(place + "60)", ones.powerEntry(row, column, 60), due);
            for (int n : Check.notIn(0, 60)) {
                Check.due(place + n + ")", ones.powerEntry(row, column, n), MatrixTraits.BAD_NUMBER);
            }
        });
    }

    private static void powerEntryTestsThePlaceFirst() {
        Check.eachBadPlace((row, column) -> {
            MatrixTraits traits = Check.allEqual(2);
            for (int n : Check.notIn(0, 60)) {
                String call = "powerEntry(" + row + ", " + column + ", " + n + ")";
                Check.due(call, traits.powerEntry(row, column, n), MatrixTraits.BAD_PLACE);
            }
        });
    }

    private static void vanishes() {
        Check.due("new: vanishes()", new MatrixTraits().vanishes(), true);
        // The third power isn't 0 yet, the fourth is.
        MatrixTraits above = Check.table(0, 9, 8, 7, 0, 0, 6, 5, 0, 0, 0, 4, 0, 0, 0, 0);
        Check.due("above: powerEntry(0, 3, 3)", above.powerEntry(0, 3, 3), 216);
        Check.due("above: vanishes()", above.vanishes(), true);
        above.relabel(0, 2);
        Check.due("relabelled: vanishes()", above.vanishes(), true);
        above.set(0, 0, 1);
        Check.due("with a 1: vanishes()", above.vanishes(), false);
        // The square is 0 though no entry is.
        MatrixTraits full = Check.table(1, 1, 1, -3, 1, 1, 1, -3, 1, 1, 1, -3, 1, 1, 1, -3);
        Check.due("full: vanishes()", full.vanishes(), true);
        // Trace and determinant are 0, the fourth power isn't.
        Check.due("diagonal: vanishes()", Check.diagonal(1, -1, 0, 0).vanishes(), false);
        for (int i = 0; i < 4; i++) {
            MatrixTraits single = new MatrixTraits();
            single.set(i, i, -1);
            Check.due("single " + i + ": vanishes()", single.vanishes(), false);
        }
    }

    /** Three go around, so that the fourth power is the table again: its diagonal alone is 0. */
    private static void vanishesOffTheDiagonal() {
        MatrixTraits around = Check.table(0, 1, 0, 0, 0, 0, 1, 0, 1, 0, 0, 0, 0, 0, 0, 0);
        Check.due("around: vanishes()", around.vanishes(), false);
        // The farthest entries: the fourth power of all 9 has 9 * 36^3 everywhere.
        Check.due("all 9: vanishes()", Check.allEqual(9).vanishes(), false);
        Check.due("all -9: vanishes()", Check.allEqual(-9).vanishes(), false);
    }
}
