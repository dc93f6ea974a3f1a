import java.util.function.BiConsumer;
import java.util.stream.IntStream;

/** Counts the answers that are not as due, and makes tables for the tests. */
final class Check {
    /** No 0 and no entry twice; no cofactor is 0, and no two have the same size; p(3) = 0. */
    static final int[] SOME = {2, -1, 4, 1, 5, 7, -2, -7, -6, -3, 9, -8, 8, 6, -5, -4};

    private static int wrong = 0;
    private static int asked = 0;

    private Check() {
    }

    static void due(String call, Object got, Object want) {
        asked++;
        if (!got.equals(want)) {
            wrong++;
            System.out.println(call + " answered " + got + ", due is " + want);
        }
    }

    static void end() {
        System.out.println(asked + " answers looked at, " + wrong + " not as due");
        if (wrong != 0) {
            System.exit(1);
        }
    }

    /** An object with these sixteen entries, row after row. */
    static MatrixTraits table(int... entries) {
        MatrixTraits traits = new MatrixTraits();
        for (int cell = 0; cell < 16; cell++) {
            traits.set(cell / 4, cell % 4, entries[cell]);
        }
        return traits;
    }

    static MatrixTraits diagonal(int a, int b, int c, int d) {
        return table(a, 0, 0, 0, 0, b, 0, 0, 0, 0, c, 0, 0, 0, 0, d);
    }

    static MatrixTraits allEqual(int entry) {
        int[] entries = new int[16];
        java.util.Arrays.fill(entries, entry);
        return table(entries);
    }

    static void dueEntries(String what, MatrixTraits traits, int... entries) {
        for (int cell = 0; cell < 16; cell++) {
            int row = cell / 4;
            int column = cell % 4;
            String call = what + ": entry(" + row + ", " + column + ")";
            due(call, traits.entry(row, column), entries[cell]);
        }
    }

    /** Not in least to greatest: the first past each end, farther ones, the least and greatest int. */
    static int[] notIn(int least, int greatest) {
        // Some of these come back inside when cut to a byte or a short, or when taken four times.
        return IntStream.of(
                least - 1, greatest + 1, least - 2, greatest + 2,
                least - 256, least + 256, greatest - 256, greatest + 256,
                least - 65536, least + 65536, greatest - 65536, greatest + 65536,
                -(1 << 30), 1 << 30, Integer.MIN_VALUE, Integer.MAX_VALUE)
                .filter(number -> number < least || number > greatest)
                .toArray();
    }

    /** Places of which the row, the column or both are not in 0 to 3. */
    static void eachBadPlace(BiConsumer<Integer, Integer> use) {
        int[] bad = notIn(0, 3);
        for (int number : bad) {
            for (int good = 0; good < 4; good++) {
                use.accept(number, good);
                use.accept(good, number);
            }
            for (int other : bad) {
                use.accept(number, other);
            }
        }
    }

    static void eachPlace(BiConsumer<Integer, Integer> use) {
        for (int row = 0; row < 4; row++) {
            for (int column = 0; column < 4; column++) {
                use.accept(row, column);
            }
        }
    }
}
