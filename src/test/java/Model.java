import java.math.BigInteger;

/** The document's words on numbers without end, to hold the class against. */
final class Model {
    static final BigInteger ZERO = BigInteger.ZERO;
    final int[][] a = new int[4][4];

    /** A model with these sixteen entries, row after row. */
    static Model of(int... entries) {
        Model model = new Model();
        for (int cell = 0; cell < 16; cell++) {
            model.a[cell / 4][cell % 4] = entries[cell];
        }
        return model;
    }

    /** The sixteen entries, row after row. */
    int[] entries() {
        int[] entries = new int[16];
        for (int cell = 0; cell < 16; cell++) {
            entries[cell] = a[cell / 4][cell % 4];
        }
        return entries;
    }

    void flip() {
        int[][] old = copy();
        for (int i = 0; i < 4; i++) {
            for (int j = 0; j < 4; j++) {
                a[i][j] = old[j][i];
            }
        }
    }

    void relabel(int p, int q) {
        int[][] old = copy();
        for (int i = 0; i < 4; i++) {
            for (int j = 0; j < 4; j++) {
                a[i][j] = old[other(i, p, q)][other(j, p, q)];
            }
        }
    }

    private static int other(int i, int p, int q) {
        return i == p ? q : i == q ? p : i;
    }

    void negate() {
        for (int[] row : a) {
            for (int j = 0; j < 4; j++) {
                row[j] = -row[j];
            }
        }
    }

    private int[][] copy() {
        int[][] copy = new int[4][];
        for (int i = 0; i < 4; i++) {
            copy[i] = a[i].clone();
        }
        return copy;
    }

    /** The table as polynomials in x: x - a(i,i) on the diagonal, -a(i,j) elsewhere. */
    BigInteger[] polynomial() {
        BigInteger[] sum = {ZERO, ZERO, ZERO, ZERO, ZERO};
        for (int way = 0; way < 256; way++) {
            int[] column = {way & 3, way >> 2 & 3, way >> 4 & 3, way >> 6 & 3};
            int sign = sign(column);
            if (sign == 0) {
                continue;
            }
            BigInteger[] product = {BigInteger.valueOf(sign), ZERO, ZERO, ZERO, ZERO};
            for (int i = 0; i < 4; i++) {
                product = timesLinear(product, i == column[i] ? 1 : 0, -a[i][column[i]]);
            }
            for (int k = 0; k <= 4; k++) {
                sum[k] = sum[k].add(product[k]);
            }
        }
        return sum;
    }

    private static BigInteger[] timesLinear(BigInteger[] p, int slope, int constant) {
        BigInteger[] product = new BigInteger[5];
        for (int k = 0; k <= 4; k++) {
            product[k] = p[k].multiply(BigInteger.valueOf(constant));
            if (k > 0) {
                product[k] = product[k].add(p[k - 1].multiply(BigInteger.valueOf(slope)));
            }
        }
        return product;
    }

    /** + for an even number of pairs out of order, - for an odd one, 0 if a column comes twice. */
    static int sign(int[] column) {
        int sign = 1;
        for (int i = 0; i < column.length; i++) {
            for (int j = i + 1; j < column.length; j++) {
                sign *= Integer.compare(column[j], column[i]);
            }
        }
        return sign;
    }

    BigInteger valueAt(int x) {
        BigInteger[] c = polynomial();
        BigInteger value = ZERO;
        for (int k = 0; k <= 4; k++) {
            value = value.add(c[k].multiply(BigInteger.valueOf(x).pow(k)));
        }
        return value;
    }

    long determinant() {
        long sum = 0;
        for (int way = 0; way < 256; way++) {
            int[] column = {way & 3, way >> 2 & 3, way >> 4 & 3, way >> 6 & 3};
            long product = sign(column);
            for (int i = 0; i < 4; i++) {
                product *= a[i][column[i]];
            }
            sum += product;
        }
        return sum;
    }

    long cofactor(int row, int column) {
        // The determinant with this row replaced by a single 1 in this column.
        Model replaced = new Model();
        for (int i = 0; i < 4; i++) {
            for (int j = 0; j < 4; j++) {
                replaced.a[i][j] = i != row ? a[i][j] : j == column ? 1 : 0;
            }
        }
        return replaced.determinant();
    }

    BigInteger[][] power(int n) {
        BigInteger[][] power = new BigInteger[4][4];
        for (int i = 0; i < 4; i++) {
            for (int j = 0; j < 4; j++) {
                power[i][j] = i == j ? BigInteger.ONE : ZERO;
            }
        }
        for (int step = 0; step < n; step++) {
            power = timesTable(power);
        }
        return power;
    }

    private BigInteger[][] timesTable(BigInteger[][] power) {
        BigInteger[][] next = new BigInteger[4][4];
        for (int i = 0; i < 4; i++) {
            for (int j = 0; j < 4; j++) {
                next[i][j] = ZERO;
                for (int k = 0; k < 4; k++) {
                    next[i][j] = next[i][j].add(power[i][k].multiply(BigInteger.valueOf(a[k][j])));
                }
            }
        }
        return next;
    }

    int trace(int n) {
        BigInteger[][] power = power(n);
        return power[0][0].add(power[1][1]).add(power[2][2]).add(power[3][3]).intValue();
    }

    int roots() {
        BigInteger[] c = polynomial();
        int count = 0;
        for (long x = -36; x <= 36; x++) {
            long value = 0;
            for (int k = 4; k >= 0; k--) {
                value = value * x + c[k].longValueExact();
            }
            count += value == 0 ? 1 : 0;
        }
        return count;
    }

    /** By elimination, so that it shares nothing with a search through the minors. */
    int rankAt(int x) {
        long[][] m = new long[4][4];
        for (int i = 0; i < 4; i++) {
            for (int j = 0; j < 4; j++) {
                m[i][j] = a[i][j] - (i == j ? x : 0);
            }
        }
        int rank = 0;
        for (int column = 0; column < 4; column++) {
            int pivot = rank;
            while (pivot < 4 && m[pivot][column] == 0) {
                pivot++;
            }
            if (pivot == 4) {
                continue;
            }
            long[] kept = m[pivot];
            m[pivot] = m[rank];
            m[rank] = kept;
            for (int row = rank + 1; row < 4; row++) {
                clear(m[row], kept, column);
            }
            rank++;
        }
        return rank;
    }

    private static void clear(long[] row, long[] pivot, int column) {
        long factor = row[column];
        for (int j = 0; j < 4; j++) {
            row[j] = Math.subtractExact(
                    Math.multiplyExact(row[j], pivot[column]), Math.multiplyExact(pivot[j], factor));
        }
    }

    boolean vanishes() {
        for (BigInteger[] row : power(4)) {
            for (BigInteger entry : row) {
                if (entry.signum() != 0) {
                    return false;
                }
            }
        }
        return true;
    }
}
