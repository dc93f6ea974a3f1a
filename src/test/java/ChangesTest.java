import java.util.Arrays;

/** Promises 1 to 6: a new object, set, flip, relabel, negate, entry. */
public final class ChangesTest {
    private static final int[] SOME = Check.SOME;

    public static void main(String[] args) {
        newObject();
        set();
        setTakesMinus9To9();
        setBadPlace();
        setBadEntry();
        setTestsThePlaceFirst();
        flip();
        flipOfEachPlace();
        relabel();
        relabelOfEachPair();
        relabelBadPlace();
        negate();
        negateOfEachEntry();
        entryBadPlace();
        objectsAreApart();
        Check.end();
    }

    private static void newObject() {
        Check.dueEntries("new", new MatrixTraits(), new int[16]);
    }

    private static void set() {
        MatrixTraits traits = new MatrixTraits();
        int[] entries = new int[16];
        for (int cell = 0; cell < 16; cell++) {
            Check.due("set", traits.set(cell / 4, cell % 4, SOME[cell]), 0);
            entries[cell] = SOME[cell];
            Check.dueEntries("set " + cell, traits, entries);
        }
    }

    private static void setTakesMinus9To9() {
        Check.eachPlace((row, column) -> {
            MatrixTraits traits = new MatrixTraits();
            for (int entry = -9; entry <= 9; entry++) {
                String call = "set(" + row + ", " + column + ", " + entry + ")";
                Check.due(call, traits.set(row, column, entry), 0);
                Check.due(call + ", entry", traits.entry(row, column), entry);
            }
        });
    }

    private static void setBadPlace() {
        Check.eachBadPlace((row, column) -> {
            MatrixTraits traits = Check.table(SOME);
            for (int entry : new int[] {-9, 0, 9}) {
                String call = "set(" + row + ", " + column + ", " + entry + ")";
                Check.due(call, traits.set(row, column, entry), MatrixTraits.BAD_PLACE);
                Check.dueEntries("after " + call, traits, SOME);
            }
        });
    }

    private static void setBadEntry() {
        Check.eachPlace((row, column) -> {
            for (int entry : Check.notIn(-9, 9)) {
                MatrixTraits traits = Check.table(SOME);
                String call = "set(" + row + ", " + column + ", " + entry + ")";
                Check.due(call, traits.set(row, column, entry), MatrixTraits.BAD_ENTRY);
                Check.dueEntries("after " + call, traits, SOME);
            }
        });
    }

    private static void setTestsThePlaceFirst() {
        Check.eachBadPlace((row, column) -> {
            MatrixTraits traits = Check.table(SOME);
            for (int entry : Check.notIn(-9, 9)) {
                String call = "set(" + row + ", " + column + ", " + entry + ")";
                Check.due(call, traits.set(row, column, entry), MatrixTraits.BAD_PLACE);
            }
            Check.dueEntries("after set with two faults", traits, SOME);
        });
    }

    private static void flip() {
        MatrixTraits traits = Check.table(SOME);
        traits.flip();
        Check.dueEntries("flip", traits,
                2, 5, -6, 8, -1, 7, -3, 6, 4, -2, 9, -5, 1, -7, -8, -4);
        traits.flip();
        Check.dueEntries("flip twice", traits, SOME);
    }

    private static void flipOfEachPlace() {
        Check.eachPlace((row, column) -> {
            MatrixTraits traits = new MatrixTraits();
            traits.set(row, column, 9);
            traits.flip();
            int[] due = new int[16];
            due[4 * column + row] = 9;
            Check.dueEntries("flip of (" + row + ", " + column + ")", traits, due);
        });
    }

    private static void relabel() {
        MatrixTraits traits = Check.table(SOME);
        Check.due("relabel(0, 2)", traits.relabel(0, 2), 0);
        Check.dueEntries("relabel(0, 2)", traits,
                9, -3, -6, -8, -2, 7, 5, -7, 4, -1, 2, 1, -5, 6, 8, -4);
        Check.due("relabel(2, 0)", traits.relabel(2, 0), 0);
        Check.dueEntries("relabel and back", traits, SOME);
        Check.due("relabel(3, 1)", traits.relabel(3, 1), 0);
        Check.dueEntries("relabel(3, 1)", traits,
                2, 1, 4, -1, 8, -4, -5, 6, -6, -8, 9, -3, 5, -7, -2, 7);
    }

    /** A number with itself too: then its part stays its own. */
    private static void relabelOfEachPair() {
        Check.eachPlace((a, b) -> {
            MatrixTraits traits = Check.table(SOME);
            Model model = Model.of(SOME);
            model.relabel(a, b);
            String call = "relabel(" + a + ", " + b + ")";
            Check.due(call, traits.relabel(a, b), 0);
            Check.dueEntries(call, traits, a.equals(b) ? SOME : model.entries());
        });
    }

    private static void relabelBadPlace() {
        Check.eachBadPlace((a, b) -> {
            MatrixTraits traits = Check.table(SOME);
            String call = "relabel(" + a + ", " + b + ")";
            Check.due(call, traits.relabel(a, b), MatrixTraits.BAD_PLACE);
            Check.dueEntries("after " + call, traits, SOME);
        });
    }

    private static void negate() {
        MatrixTraits traits = Check.table(SOME);
        traits.negate();
        Check.dueEntries("negate", traits,
                -2, 1, -4, -1, -5, -7, 2, 7, 6, 3, -9, 8, -8, -6, 5, 4);
        traits.negate();
        Check.dueEntries("negate twice", traits, SOME);
    }

    /** From -9 to 9, in every place; 0 stays 0. */
    private static void negateOfEachEntry() {
        for (int entry = -9; entry <= 9; entry++) {
            MatrixTraits traits = Check.allEqual(entry);
            traits.negate();
            int[] due = new int[16];
            Arrays.fill(due, -entry);
            Check.dueEntries("negate of " + entry, traits, due);
        }
    }

    private static void entryBadPlace() {
        Check.eachBadPlace((row, column) -> {
            String call = "entry(" + row + ", " + column + ")";
            int filled = Check.table(SOME).entry(row, column);
            Check.due(call, filled, MatrixTraits.BAD_PLACE);
            Check.due("new: " + call, new MatrixTraits().entry(row, column), MatrixTraits.BAD_PLACE);
        });
    }

    private static void objectsAreApart() {
        MatrixTraits one = new MatrixTraits();
        MatrixTraits other = Check.table(SOME);
        Check.dueEntries("the one object", one, new int[16]);
        one.set(0, 0, 8);
        Check.dueEntries("the other object", other, SOME);
    }
}
