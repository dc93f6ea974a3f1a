import java.math.BigInteger;

/** All promises: long runs of changes, with every answer held against the model. */
public final class ModelTest {
    private static final int OBJECTS = 600;
    private static final int ROUNDS = 3;

    // A fixed row of numbers, so that every run of the test is the same.
    private static long seed = 20261115L;

    public static void main(String[] args) {
        for (int object = 0; object < OBJECTS; object++) {
            MatrixTraits traits = new MatrixTraits();
            Model model = new Model();
            fill(traits, model, object % 6);
            for (int round = 0; round < ROUNDS; round++) {
                String where = "object " + object + ", round " + round + ": ";
                compare(where, traits, model);
                change(traits, model);
            }
        }
        Check.end();
    }

    private static int next(int least, int greatest) {
        seed = seed * 6364136223846793005L + 1442695040888963407L;
        return least + (int) ((seed >>> 33) % (greatest - least + 1));
    }

    /** Narrow, sparse and dependent tables too: wide ones hardly ever have roots or a low rank. */
    private static void fill(MatrixTraits traits, Model model, int kind) {
        for (int i = 0; i < 4; i++) {
            for (int j = 0; j < 4; j++) {
                int entry = switch (kind) {
                    case 0 -> next(-9, 9);
                    case 1 -> next(-1, 1);
                    case 2 -> next(0, 3) == 0 ? next(-9, 9) : 0;
                    case 3 -> j > i ? next(-9, 9) : 0;
                    case 4 -> i > 0 && next(0, 2) > 0 ? model.a[i - 1][j] : next(-2, 2);
                    default -> next(0, 1) == 0 ? -9 : 9;
                };
                model.a[i][j] = entry;
                traits.set(i, j, entry);
            }
        }
    }

    private static void change(MatrixTraits traits, Model model) {
        int a = next(0, 3);
        int b = next(0, 3);
        switch (next(0, 3)) {
            case 0 -> {
                int entry = next(-9, 9);
                model.a[a][b] = entry;
                Check.due("set", traits.set(a, b, entry), 0);
            }
            case 1 -> {
                model.flip();
                traits.flip();
            }
            case 2 -> {
                model.relabel(a, b);
                Check.due("relabel", traits.relabel(a, b), 0);
            }
            default -> {
                model.negate();
                traits.negate();
            }
        }
    }

    private static void compare(String where, MatrixTraits traits, Model model) {
        comparePolynomial(where, traits, model);
        comparePowers(where, traits, model);
        for (int turn = 0; turn < 4; turn++) {
            int x = turn < 3 ? next(-9, 9) : next(-40, 40);
            Check.due(where + "rankAt(" + x + ")", traits.rankAt(x), model.rankAt(x));
        }
        Check.due(where + "rankAt(0)", traits.rankAt(0), model.rankAt(0));
        // Last, so that it also shows that the calls above change nothing.
        for (int i = 0; i < 4; i++) {
            for (int j = 0; j < 4; j++) {
                String call = where + "entry(" + i + ", " + j + ")";
                Check.due(call, traits.entry(i, j), model.a[i][j]);
            }
        }
    }

    private static void comparePolynomial(String where, MatrixTraits traits, Model model) {
        BigInteger[] polynomial = model.polynomial();
        for (int k = 0; k <= 4; k++) {
            String call = where + "coefficient(" + k + ")";
            Check.due(call, traits.coefficient(k), polynomial[k].intValueExact());
        }
        for (int turn = 0; turn < 4; turn++) {
            int x = turn < 2 ? next(-10, 10) : next(-1000, 1000);
            Check.due(where + "valueAt(" + x + ")", traits.valueAt(x), model.valueAt(x).intValue());
        }
        Check.due(where + "roots()", traits.roots(), model.roots());
        Check.due(where + "determinant()", (long) traits.determinant(), model.determinant());
        for (int i = 0; i < 4; i++) {
            for (int j = 0; j < 4; j++) {
                String call = where + "cofactor(" + i + ", " + j + ")";
                Check.due(call, (long) traits.cofactor(i, j), model.cofactor(i, j));
            }
        }
    }

    private static void comparePowers(String where, MatrixTraits traits, Model model) {
        int[] exponents = {0, 1, 2, next(3, 10), next(11, 59), 60};
        for (int n : exponents) {
            Check.due(where + "powerTrace(" + n + ")", traits.powerTrace(n), model.trace(n));
            BigInteger[][] power = model.power(n);
            for (int turn = 0; turn < 6; turn++) {
                int i = next(0, 3);
                int j = next(0, 3);
                String call = where + "powerEntry(" + i + ", " + j + ", " + n + ")";
                Check.due(call, traits.powerEntry(i, j, n), power[i][j].intValue());
            }
        }
        Check.due(where + "vanishes()", traits.vanishes(), model.vanishes());
    }
}
