import java.math.BigInteger;

/** The way by which a table is bent, for the model: as the document tells it, each number of the bent table anew. */
final class Bent {
    final BigInteger[][] rows;
    private final int[][] m;
    private final int n;

    Bent(int[][] table) {
        m = table;
        n = table.length;
        rows = new BigInteger[n][n];
        for (int i = 0; i < n; i++) {
            for (int k = 0; k < n; k++) rows[i][k] = i == k ? BigInteger.ONE : BigInteger.ZERO;
        }
        for (int i = 0; i < n; i++) step(i);
        for (int i = 0; i < n; i++) {
            for (int k = 0; k < n; k++) {
                if (i != k && b(i, k).signum() != 0) throw new IllegalStateException("not straight");
            }
        }
    }

    BigInteger[] d() {
        BigInteger[] d = new BigInteger[n];
        for (int i = 0; i < n; i++) d[i] = b(i, i);
        return d;
    }

    private BigInteger b(int i, int k) {
        BigInteger sum = BigInteger.ZERO;
        for (int a = 0; a < n; a++) {
            for (int c = 0; c < n; c++) {
                sum = sum.add(rows[i][a].multiply(BigInteger.valueOf(m[a][c])).multiply(rows[k][c]));
            }
        }
        return sum;
    }

    private void step(int i) {
        if (b(i, i).signum() == 0 && !ready(i)) return;
        for (int k = i + 1; k < n; k++) {
            BigInteger c = b(k, i), a = b(i, i);
            if (c.signum() == 0) continue;
            BigInteger g = a.gcd(c), all = BigInteger.ZERO;
            for (int j = 0; j < n; j++) {
                rows[k][j] = a.divide(g).multiply(rows[k][j]).subtract(c.divide(g).multiply(rows[i][j]));
                all = all.gcd(rows[k][j]);
            }
            for (int j = 0; j < n; j++) rows[k][j] = rows[k][j].divide(all);
        }
    }

    private boolean ready(int i) {
        for (int k = i + 1; k < n; k++) {
            if (b(k, k).signum() != 0) {
                BigInteger[] held = rows[i];
                rows[i] = rows[k];
                rows[k] = held;
                return true;
            }
        }
        for (int k = i + 1; k < n; k++) {
            if (b(i, k).signum() != 0) {
                for (int j = 0; j < n; j++) rows[i][j] = rows[i][j].add(rows[k][j]);
                return true;
            }
        }
        return false;
    }
}
