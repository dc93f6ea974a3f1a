/** Promises 11, 12 and 15: powerTrace, powerEntry, vanishes. */
public final class PowersTest {
    private static final int[] WRONG = {-1, 61, 64, -60, Integer.MIN_VALUE, Integer.MAX_VALUE};

    public static void main(String[] args) {
        powerTrace();
        powerEntry();
        powerEntryWrong();
        vanishes();
        Check.end();
    }

    private static void powerTrace() {
        Check.due("new: powerTrace(0)", new MatrixTraits().powerTrace(0), 4);
        Check.due("new: powerTrace(1)", new MatrixTraits().powerTrace(1), 0);
        MatrixTraits traits = Check.diagonal(3, -2, 9, 1);
        int a = 1;
        int b = 1;
        int c = 1;
        for (int n = 0; n <= 60; n++) {
            Check.due("powerTrace(" + n + ")", traits.powerTrace(n), a + b + c + 1);
            a *= 3;
            b *= -2;
            c *= 9;
        }
        for (int n : WRONG) {
            Check.due("powerTrace(" + n + ")", traits.powerTrace(n), MatrixTraits.BAD_NUMBER);
        }
    }

    private static void powerEntry() {
        // The top left corner's powers hold the Fibonacci numbers; the rest turns around.
        MatrixTraits traits = Check.table(1, 1, 0, 0, 1, 0, 0, 0, 0, 0, 0, 1, 0, 0, -1, 0);
        int before = 1;
        int now = 0;
        for (int n = 0; n <= 60; n++) {
            Check.due("powerEntry(0, 0, " + n + ")", traits.powerEntry(0, 0, n), before + now);
            Check.due("powerEntry(0, 1, " + n + ")", traits.powerEntry(0, 1, n), now);
            Check.due("powerEntry(1, 0, " + n + ")", traits.powerEntry(1, 0, n), now);
            Check.due("powerEntry(1, 1, " + n + ")", traits.powerEntry(1, 1, n), before);
            int turn = n % 2 == 0 ? 0 : n % 4 == 1 ? 1 : -1;
            Check.due("powerEntry(2, 3, " + n + ")", traits.powerEntry(2, 3, n), turn);
            Check.due("powerEntry(3, 2, " + n + ")", traits.powerEntry(3, 2, n), -turn);
            Check.due("powerEntry(0, 3, " + n + ")", traits.powerEntry(0, 3, n), 0);
            int next = before + now;
            before = now;
            now = next;
        }
    }

    private static void powerEntryWrong() {
        MatrixTraits traits = Check.allEqual(2);
        Check.eachBadPlace(place -> {
            String call = "powerEntry(" + place[0] + ", " + place[1] + ", ..)";
            Check.due(call, traits.powerEntry(place[0], place[1], 2), MatrixTraits.BAD_PLACE);
            // The place is tested ahead of n.
            Check.due(call, traits.powerEntry(place[0], place[1], 61), MatrixTraits.BAD_PLACE);
        });
        for (int n : WRONG) {
            String call = "powerEntry(3, 0, " + n + ")";
            Check.due(call, traits.powerEntry(3, 0, n), MatrixTraits.BAD_NUMBER);
        }
    }

    private static void vanishes() {
        Check.due("new: vanishes()", new MatrixTraits().vanishes(), true);
        // The third power isn't 0 yet, the fourth is.
        MatrixTraits above = Check.table(0, 9, 8, 7, 0, 0, 6, 5, 0, 0, 0, 4, 0, 0, 0, 0);
        Check.due("above: powerEntry(0, 3, 3)", above.powerEntry(0, 3, 3), 216);
        Check.due("above: vanishes()", above.vanishes(), true);
        above.relabel(0, 2);
        Check.due("relabelled: vanishes()", above.vanishes(), true);
        above.set(0, 0, 1);
        Check.due("with a 1: vanishes()", above.vanishes(), false);
        // The square is 0 though no entry is.
        MatrixTraits full = Check.table(1, 1, 1, -3, 1, 1, 1, -3, 1, 1, 1, -3, 1, 1, 1, -3);
        Check.due("full: vanishes()", full.vanishes(), true);
        // Trace and determinant are 0, the fourth power isn't.
        Check.due("diagonal: vanishes()", Check.diagonal(1, -1, 0, 0).vanishes(), false);
        for (int i = 0; i < 4; i++) {
            MatrixTraits single = new MatrixTraits();
            single.set(i, i, -1);
            Check.due("single " + i + ": vanishes()", single.vanishes(), false);
        }
    }
}
