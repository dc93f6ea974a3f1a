/** "What it is": an object answers as promised up to its 512th call. */
public final class LifeTest {
    private static final int CALLS = 512;
    private static final int KINDS = 20;

    private static int call;

    public static void main(String[] args) {
        for (int kind = 0; kind < KINDS; kind++) {
            endsWith(kind);
            isOnly(kind);
        }
        Check.end();
    }

    /** All kinds of calls in turn; a change at the 511th call is seen by the 512th. */
    private static void endsWith(int last) {
        MatrixTraits traits = new MatrixTraits();
        Model model = new Model();
        for (call = 1; call <= CALLS; call++) {
            int kind = Math.floorMod(last - (CALLS - call) * 7, KINDS);
            use(kind, traits, model);
        }
    }

    /** One kind of call over and over, and a last look at the table. */
    private static void isOnly(int kind) {
        MatrixTraits traits = new MatrixTraits();
        Model model = new Model();
        for (call = 1; call <= 16; call++) {
            set((call - 1) / 4, (call - 1) % 4, Check.SOME[call - 1], traits, model);
        }
        for (; call < CALLS; call++) {
            use(kind, traits, model);
        }
        // The place where a set or a relabel as 511th call is at work.
        due("entry(3, 2)", traits.entry(3, 2), model.a[3][2]);
    }

    private static void due(String name, Object got, Object want) {
        Check.due("call " + call + ": " + name, got, want);
    }

    private static void set(int row, int column, int entry, MatrixTraits traits, Model model) {
        model.a[row][column] = entry;
        due("set", traits.set(row, column, entry), 0);
    }

    private static void use(int kind, MatrixTraits traits, Model model) {
        if (kind < 5) {
            change(kind, traits, model);
        } else if (kind < 14) {
            ask(kind, traits, model);
        } else {
            askWrongly(kind, traits);
        }
    }

    private static void change(int kind, MatrixTraits traits, Model model) {
        int a = call % 4;
        int b = call / 5 % 4;
        switch (kind) {
            case 0 -> set(a, b, call % 19 - 9, traits, model);
            case 1 -> {
                model.flip();
                traits.flip();
            }
            case 2 -> {
                model.relabel(a, b);
                due("relabel", traits.relabel(a, b), 0);
            }
            case 3 -> {
                model.negate();
                traits.negate();
            }
            default -> due("entry", traits.entry(a, b), model.a[a][b]);
        }
    }

    private static void ask(int kind, MatrixTraits traits, Model model) {
        int a = call % 4;
        int b = call / 5 % 4;
        int n = call % 61;
        int x = call % 81 - 40;
        switch (kind) {
            case 5 -> due("coefficient", traits.coefficient(a), model.polynomial()[a].intValue());
            case 6 -> due("valueAt", traits.valueAt(25 * x), model.valueAt(25 * x).intValue());
            case 7 -> due("determinant", (long) traits.determinant(), model.determinant());
            case 8 -> due("cofactor", (long) traits.cofactor(a, b), model.cofactor(a, b));
            case 9 -> due("powerTrace", traits.powerTrace(n), model.trace(n));
            case 10 -> due("powerEntry", traits.powerEntry(a, b, n), model.power(n)[a][b].intValue());
            case 11 -> due("roots", traits.roots(), model.roots());
            case 12 -> due("rankAt", traits.rankAt(x), model.rankAt(x));
            default -> due("vanishes", traits.vanishes(), model.vanishes());
        }
    }

    private static void askWrongly(int kind, MatrixTraits traits) {
        switch (kind) {
            case 14 -> due("set", traits.set(4, 0, 1), MatrixTraits.BAD_PLACE);
            case 15 -> due("set", traits.set(0, 0, 10), MatrixTraits.BAD_ENTRY);
            case 16 -> due("relabel", traits.relabel(0, -1), MatrixTraits.BAD_PLACE);
            case 17 -> due("coefficient", traits.coefficient(5), 0);
            case 18 -> due("powerEntry", traits.powerEntry(0, 0, 61), MatrixTraits.BAD_NUMBER);
            default -> due("rankAt", traits.rankAt(41), MatrixTraits.BAD_NUMBER);
        }
    }
}
