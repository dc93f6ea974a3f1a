/** Promises 1 to 6: a new object, set, flip, relabel, negate, entry. */
public final class ChangesTest {
    private static final int[] SOME = {1, 2, 3, 4, 5, 6, 7, 8, 9, -1, -2, -3, -4, -5, -6, -7};

    public static void main(String[] args) {
        newObject();
        set();
        setWrong();
        flip();
        relabel();
        relabelWrong();
        negate();
        entryWrong();
        objectsAreApart();
        Check.end();
    }

    private static void newObject() {
        Check.dueEntries("new", new MatrixTraits(), new int[16]);
    }

    private static void set() {
        MatrixTraits traits = new MatrixTraits();
        int[] entries = new int[16];
        for (int cell = 0; cell < 16; cell++) {
            Check.due("set", traits.set(cell / 4, cell % 4, SOME[cell]), 0);
            entries[cell] = SOME[cell];
            Check.dueEntries("set " + cell, traits, entries);
        }
        for (int entry = -9; entry <= 9; entry++) {
            Check.due("set(2, 1, " + entry + ")", traits.set(2, 1, entry), 0);
            Check.due("entry(2, 1)", traits.entry(2, 1), entry);
        }
    }

    private static void setWrong() {
        MatrixTraits traits = Check.table(SOME);
        Check.eachBadPlace(place -> {
            String call = "set(" + place[0] + ", " + place[1] + ", ..)";
            Check.due(call, traits.set(place[0], place[1], 5), MatrixTraits.BAD_PLACE);
            // The place is tested ahead of the entry.
            Check.due(call, traits.set(place[0], place[1], 10), MatrixTraits.BAD_PLACE);
        });
        int[] entries = {-10, 10, 11, 100, 256, Integer.MIN_VALUE, Integer.MAX_VALUE};
        for (int entry : entries) {
            Check.due("set(0, 3, " + entry + ")", traits.set(0, 3, entry), MatrixTraits.BAD_ENTRY);
            Check.due("set(3, 0, " + entry + ")", traits.set(3, 0, entry), MatrixTraits.BAD_ENTRY);
        }
        Check.dueEntries("after wrong sets", traits, SOME);
    }

    private static void flip() {
        MatrixTraits traits = Check.table(SOME);
        traits.flip();
        Check.dueEntries("flip", traits,
                1, 5, 9, -4, 2, 6, -1, -5, 3, 7, -2, -6, 4, 8, -3, -7);
        traits.flip();
        Check.dueEntries("flip twice", traits, SOME);
    }

    private static void relabel() {
        MatrixTraits traits = Check.table(SOME);
        Check.due("relabel(0, 2)", traits.relabel(0, 2), 0);
        Check.dueEntries("relabel(0, 2)", traits,
                -2, -1, 9, -3, 7, 6, 5, 8, 3, 2, 1, 4, -6, -5, -4, -7);
        Check.due("relabel(2, 0)", traits.relabel(2, 0), 0);
        Check.dueEntries("relabel and back", traits, SOME);
        Check.due("relabel(3, 1)", traits.relabel(3, 1), 0);
        Check.dueEntries("relabel(3, 1)", traits,
                1, 4, 3, 2, -4, -7, -6, -5, 9, -3, -2, -1, 5, 8, 7, 6);
        Check.due("relabel(1, 3)", traits.relabel(1, 3), 0);
        for (int number = 0; number < 4; number++) {
            Check.due("relabel with itself", traits.relabel(number, number), 0);
            Check.dueEntries("relabel with itself", traits, SOME);
        }
    }

    private static void relabelWrong() {
        MatrixTraits traits = Check.table(SOME);
        Check.eachBadPlace(place -> {
            String call = "relabel(" + place[0] + ", " + place[1] + ")";
            Check.due(call, traits.relabel(place[0], place[1]), MatrixTraits.BAD_PLACE);
        });
        Check.dueEntries("after wrong relabels", traits, SOME);
    }

    private static void negate() {
        MatrixTraits traits = Check.table(SOME);
        traits.negate();
        Check.dueEntries("negate", traits,
                -1, -2, -3, -4, -5, -6, -7, -8, -9, 1, 2, 3, 4, 5, 6, 7);
        traits.negate();
        Check.dueEntries("negate twice", traits, SOME);
    }

    private static void entryWrong() {
        MatrixTraits traits = Check.table(SOME);
        Check.eachBadPlace(place -> {
            String call = "entry(" + place[0] + ", " + place[1] + ")";
            Check.due(call, traits.entry(place[0], place[1]), MatrixTraits.BAD_PLACE);
        });
    }

    private static void objectsAreApart() {
        MatrixTraits one = new MatrixTraits();
        MatrixTraits other = Check.table(SOME);
        Check.dueEntries("the other object", one, new int[16]);
        one.set(0, 0, 8);
        Check.dueEntries("the one object", other, SOME);
    }
}
