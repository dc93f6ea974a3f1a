import java.util.function.Consumer;

/** Counts the answers that are not as due, and makes tables for the tests. */
final class Check {
    private static int wrong = 0;
    private static int asked = 0;

    private Check() {
    }

    static void due(String call, Object got, Object want) {
        asked++;
        if (!got.equals(want)) {
            wrong++;
            System.out.println(call + " answered " + got + ", due is " + want);
        }
    }

    static void end() {
        System.out.println(asked + " answers looked at, " + wrong + " not as due");
        if (wrong != 0) {
            System.exit(1);
        }
    }

    /** An object with these sixteen entries, row after row. */
    static MatrixTraits table(int... entries) {
        MatrixTraits traits = new MatrixTraits();
        for (int cell = 0; cell < 16; cell++) {
            traits.set(cell / 4, cell % 4, entries[cell]);
        }
        return traits;
    }

    static MatrixTraits diagonal(int a, int b, int c, int d) {
        return table(a, 0, 0, 0, 0, b, 0, 0, 0, 0, c, 0, 0, 0, 0, d);
    }

    static MatrixTraits allEqual(int entry) {
        int[] entries = new int[16];
        java.util.Arrays.fill(entries, entry);
        return table(entries);
    }

    static void dueEntries(String what, MatrixTraits traits, int... entries) {
        for (int cell = 0; cell < 16; cell++) {
            int row = cell / 4;
            int column = cell % 4;
            String call = what + ": entry(" + row + ", " + column + ")";
            due(call, traits.entry(row, column), entries[cell]);
        }
    }

    /** Places of which at least one number is not in 0 to 3. */
    static void eachBadPlace(Consumer<int[]> use) {
        int[] numbers = {0, 3, -1, 4, 16, -4, Integer.MIN_VALUE, Integer.MAX_VALUE};
        for (int row : numbers) {
            for (int column : numbers) {
                if (row < 0 || row > 3 || column < 0 || column > 3) {
                    use.accept(new int[] {row, column});
                }
            }
        }
    }
}
