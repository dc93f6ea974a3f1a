import java.util.Arrays;
import java.util.LinkedHashMap;
import java.util.Map;
import java.util.function.Function;

/** "Terms", and what promise 6 says of the answers below it: sentences that bind several calls. */
public final class TermsTest {
    public static void main(String[] args) {
        entriesFromMinus9To9();
        signOfEachWay();
        zerothPower();
        nextPower();
        powersWrap();
        valuesWrap();
        callsBelowChangeNothing();
        callsBelowKeepEachOthersAnswers();
        answersMayEqualTheConstants();
        Check.end();
    }

    /** The farthest entries in all places at once, so that nothing inside is too narrow for them. */
    private static void entriesFromMinus9To9() {
        for (int signs = 0; signs < 1 << 16; signs += 257) {
            int[] entries = new int[16];
            for (int cell = 0; cell < 16; cell++) {
                entries[cell] = (signs >> cell & 1) == 0 ? 9 : -9;
            }
            MatrixTraits traits = Check.table(entries);
            Model model = Model.of(entries);
            Check.dueEntries("signs " + signs, traits, entries);
            for (int k = 0; k < 4; k++) {
                String call = "signs " + signs + ": coefficient(" + k + ")";
                Check.due(call, traits.coefficient(k), model.polynomial()[k].intValueExact());
            }
        }
    }

    /** One entry in each row and column: a single way is left in the table and in four minors. */
    private static void signOfEachWay() {
        for (int way = 0; way < 256; way++) {
            int[] columns = {way & 3, way >> 2 & 3, way >> 4 & 3, way >> 6 & 3};
            int sign = Model.sign(columns);
            if (sign != 0) {
                signOfWay(columns, sign);
            }
        }
    }

    private static void signOfWay(int[] columns, int sign) {
        int[] entries = {2, 3, 5, 7};
        MatrixTraits traits = new MatrixTraits();
        for (int row = 0; row < 4; row++) {
            traits.set(row, columns[row], entries[row]);
        }
        String way = "way " + columns[0] + columns[1] + columns[2] + columns[3] + ": ";
        Check.due(way + "determinant()", traits.determinant(), sign * 210);
        Check.due(way + "coefficient(0)", traits.coefficient(0), sign * 210);
        Check.due(way + "valueAt(0)", traits.valueAt(0), sign * 210);
        Check.eachPlace((row, column) -> {
            // Elsewhere a row and a column without an entry are left.
            int due = columns[row] == column ? sign * 210 / entries[row] : 0;
            String call = way + "cofactor(" + row + ", " + column + ")";
            Check.due(call, traits.cofactor(row, column), due);
        });
    }

    private static void zerothPower() {
        MatrixTraits[] tables = {new MatrixTraits(), Check.table(Check.SOME), Check.allEqual(-9)};
        for (MatrixTraits traits : tables) {
            Check.due("powerTrace(0)", traits.powerTrace(0), 4);
            Check.eachPlace((row, column) -> {
                String call = "powerEntry(" + row + ", " + column + ", 0)";
                Check.due(call, traits.powerEntry(row, column, 0), row.equals(column) ? 1 : 0);
            });
        }
    }

    private static void nextPower() {
        MatrixTraits traits = Check.table(Check.SOME);
        int[] square = {-17, -15, 41, -27, 1, 8, 23, 0, -145, -90, 103, -25, 44, 25, -5, 22};
        Check.eachPlace((row, column) -> {
            int cell = 4 * row + column;
            String call = "powerEntry(" + row + ", " + column + ", ..)";
            Check.due(call, traits.powerEntry(row, column, 1), Check.SOME[cell]);
            Check.due(call, traits.powerEntry(row, column, 2), square[cell]);
        });
        Check.due("powerTrace(1)", traits.powerTrace(1), 14);
        Check.due("powerTrace(2)", traits.powerTrace(2), 116);
    }

    private static void powersWrap() {
        MatrixTraits twos = Check.diagonal(2, 2, 2, 2);
        Check.due("2^30", twos.powerEntry(1, 1, 30), 1 << 30);
        Check.due("2^31", twos.powerEntry(1, 1, 31), Integer.MIN_VALUE);
        Check.due("2^32", twos.powerEntry(1, 1, 32), 0);
        // Each entry still fits, and only their sum passes the greatest int.
        Check.due("4 * 2^29", twos.powerTrace(29), Integer.MIN_VALUE);
        Check.due("4 * 2^30", twos.powerTrace(30), 0);
        MatrixTraits nines = Check.diagonal(-9, 9, 0, 0);
        Check.due("9^9", nines.powerEntry(1, 1, 9), 387420489);
        Check.due("(-9)^9", nines.powerEntry(0, 0, 9), -387420489);
        Check.due("9^10", nines.powerEntry(1, 1, 10), (int) 3486784401L);
        Check.due("(-9)^11", nines.powerEntry(0, 0, 11), (int) -31381059609L);
        // A sum of four products: 9 * 36^5 still fits, 9 * 36^6 does not.
        Check.due("all 9, 6th power", Check.allEqual(9).powerEntry(3, 0, 6), (int) (9L * 60466176));
        Check.due("all 9, 7th power", Check.allEqual(9).powerEntry(3, 0, 7), (int) (9L * 2176782336L));
    }

    private static void valuesWrap() {
        MatrixTraits zero = new MatrixTraits();
        for (int sign = -1; sign <= 1; sign += 2) {
            // p(x) = x^4: 215^4 is the last that fits, 256^4 = 2^32.
            Check.due("215^4", zero.valueAt(sign * 215), 2136750625);
            Check.due("216^4", zero.valueAt(sign * 216), (int) 2176782336L);
            Check.due("256^4", zero.valueAt(sign * 256), 0);
            Check.due("1000^4", zero.valueAt(sign * 1000), (int) 1_000_000_000_000L);
        }
        // A value that wraps to 0 is no root where roots() looks, and costs no rank there.
        Check.due("new: roots()", zero.roots(), 1);
        Check.due("new: rankAt(32)", zero.rankAt(32), 4);
    }

    /** The ten calls that change nothing, answered and refused. */
    static Map<String, Function<MatrixTraits, Object>> callsBelow() {
        Map<String, Function<MatrixTraits, Object>> calls = new LinkedHashMap<>();
        calls.put("entry(1, 2)", traits -> traits.entry(1, 2));
        calls.put("entry(4, 0)", traits -> traits.entry(4, 0));
        calls.put("entry(0, -1)", traits -> traits.entry(0, -1));
        for (int k = -1; k <= 5; k++) {
            int which = k;
            calls.put("coefficient(" + k + ")", traits -> traits.coefficient(which));
        }
        for (int x : new int[] {0, 7, -1000, 1000, -1001, 1001}) {
            calls.put("valueAt(" + x + ")", traits -> traits.valueAt(x));
        }
        calls.put("determinant()", MatrixTraits::determinant);
        Check.eachPlace((row, column) -> {
            String place = "(" + row + ", " + column + ")";
            calls.put("cofactor" + place, traits -> traits.cofactor(row, column));
        });
        calls.put("cofactor(0, 4)", traits -> traits.cofactor(0, 4));
        for (int n : new int[] {0, 1, 2, 60, -1, 61}) {
            calls.put("powerTrace(" + n + ")", traits -> traits.powerTrace(n));
            calls.put("powerEntry(1, 2, " + n + ")", traits -> traits.powerEntry(1, 2, n));
            calls.put("powerEntry(-1, 2, " + n + ")", traits -> traits.powerEntry(-1, 2, n));
        }
        calls.put("roots()", MatrixTraits::roots);
        for (int x : new int[] {0, 3, -3, -40, 40, -41, 41}) {
            calls.put("rankAt(" + x + ")", traits -> traits.rankAt(x));
        }
        calls.put("vanishes()", MatrixTraits::vanishes);
        return calls;
    }

    private static void callsBelowChangeNothing() {
        int[] nines = new int[16];
        Arrays.fill(nines, 9);
        int[] minusNines = new int[16];
        Arrays.fill(minusNines, -9);
        int[][] tables = {new int[16], Check.SOME, nines, minusNines};
        callsBelow().forEach((name, call) -> {
            for (int[] entries : tables) {
                MatrixTraits traits = Check.table(entries);
                call.apply(traits);
                Check.dueEntries(entries[0] + " .., after " + name, traits, entries);
            }
        });
    }

    private static void callsBelowKeepEachOthersAnswers() {
        Map<String, Function<MatrixTraits, Object>> calls = callsBelow();
        calls.forEach((name, call) -> {
            MatrixTraits traits = Check.table(Check.SOME);
            calls.forEach((laterName, later) -> {
                Object alone = later.apply(Check.table(Check.SOME));
                call.apply(traits);
                Check.due(name + ", then " + laterName, later.apply(traits), alone);
            });
        });
    }

    private static void answersMayEqualTheConstants() {
        for (int due = -1; due >= -3; due--) {
            MatrixTraits last = Check.diagonal(1, 1, 1, due);
            Check.due("entry(3, 3)", last.entry(3, 3), due);
            Check.due("coefficient(0)", last.coefficient(0), due);
            Check.due("valueAt(0)", last.valueAt(0), due);
            Check.due("determinant()", last.determinant(), due);
            Check.due("cofactor(0, 0)", last.cofactor(0, 0), due);
            Check.due("powerEntry(3, 3, 1)", last.powerEntry(3, 3, 1), due);
            Check.due("powerTrace(1)", Check.diagonal(due, 0, 0, 0).powerTrace(1), due);
            Check.due("coefficient(3)", Check.diagonal(-due, 0, 0, 0).coefficient(3), due);
            Check.due("coefficient(2)", Check.diagonal(1, due, 0, 0).coefficient(2), due);
            Check.due("coefficient(1)", Check.diagonal(1, -due, 1, 0).coefficient(1), due);
        }
    }
}
