import java.math.BigInteger;
import java.util.Arrays;

/** Polynomials over whole numbers, from x^0 on, for the model. */
final class Poly {
    private Poly() {
    }

    static BigInteger worth(int[][] m) {
        if (m.length == 0) return BigInteger.ONE;
        BigInteger sum = BigInteger.ZERO;
        for (int k = 0; k < m.length; k++) {
            int[][] less = new int[m.length - 1][m.length - 1];
            for (int a = 1; a < m.length; a++) {
                for (int b = 0; b < m.length; b++) {
                    if (b != k) less[a - 1][b < k ? b : b - 1] = m[a][b];
                }
            }
            BigInteger part = worth(less).multiply(BigInteger.valueOf(m[0][k]));
            sum = k % 2 == 0 ? sum.add(part) : sum.subtract(part);
        }
        return sum;
    }

    /** Each number is a sum of the worths of parts of the table: those of all choices of rows. */
    static BigInteger[] ofTable(int[][] m) {
        int n = m.length;
        BigInteger[] p = new BigInteger[n + 1];
        Arrays.fill(p, BigInteger.ZERO);
        for (int choice = 0; choice < 1 << n; choice++) {
            int[] rows = rowsOf(choice, n);
            int[][] part = new int[rows.length][rows.length];
            for (int a = 0; a < rows.length; a++) {
                for (int b = 0; b < rows.length; b++) part[a][b] = m[rows[a]][rows[b]];
            }
            BigInteger w = worth(part);
            p[n - rows.length] = p[n - rows.length].add(rows.length % 2 == 0 ? w : w.negate());
        }
        return p;
    }

    private static int[] rowsOf(int choice, int n) {
        int[] rows = new int[Integer.bitCount(choice)];
        for (int i = 0, at = 0; i < n; i++) {
            if ((choice >> i & 1) == 1) rows[at++] = i;
        }
        return rows;
    }

    static BigInteger[] slope(BigInteger[] p) {
        BigInteger[] q = new BigInteger[p.length - 1];
        for (int i = 1; i < p.length; i++) q[i - 1] = p[i].multiply(BigInteger.valueOf(i));
        return q;
    }

    /** The remainder times a number above 0, by its greatest common number; empty if it is 0. */
    static BigInteger[] remainder(BigInteger[] a, BigInteger[] b) {
        BigInteger[] r = a.clone();
        int top = b.length - 1;
        for (int i = r.length - 1; i >= top; i--) {
            BigInteger head = r[i];
            for (int k = 0; k < r.length; k++) r[k] = r[k].multiply(b[top].abs());
            for (int k = 0; k <= top; k++) {
                BigInteger part = b[k].multiply(head);
                r[i - top + k] = r[i - top + k].subtract(b[top].signum() > 0 ? part : part.negate());
            }
        }
        int length = r.length;
        while (length > 0 && r[length - 1].signum() == 0) length--;
        return primitive(Arrays.copyOf(r, length));
    }

    static BigInteger[] primitive(BigInteger[] p) {
        BigInteger g = BigInteger.ZERO;
        for (BigInteger number : p) g = g.gcd(number);
        BigInteger[] q = p.clone();
        for (int i = 0; i < q.length; i++) q[i] = q[i].divide(g);
        return q;
    }

    static BigInteger[] over(BigInteger[] p, BigInteger[] q) {
        BigInteger[] left = p.clone();
        BigInteger[] out = new BigInteger[p.length - q.length + 1];
        for (int i = out.length - 1; i >= 0; i--) {
            out[i] = left[i + q.length - 1].divide(q[q.length - 1]);
            for (int k = 0; k < q.length; k++) left[i + k] = left[i + k].subtract(out[i].multiply(q[k]));
        }
        for (BigInteger rest : left) {
            if (rest.signum() != 0) throw new IllegalStateException("no whole division");
        }
        return out;
    }

    static BigInteger[] least(BigInteger[] p) {
        BigInteger[] a = p, b = primitive(slope(p));
        while (b.length > 0) {
            BigInteger[] r = remainder(a, b);
            a = b;
            b = r;
        }
        if (a[a.length - 1].signum() < 0) {
            for (int i = 0; i < a.length; i++) a[i] = a[i].negate();
        }
        return over(p, a);
    }

    /** How many roots of a polynomial without double ones are below a / b, just it, above it: Sturm's rows. */
    static int[] weigh(BigInteger[] p, BigInteger a, BigInteger b) {
        int just = sign(p, a, b) == 0 ? 1 : 0;
        int all = changes(p, null, 0) - changes(p, null, 1);
        // Changes from far below to a / b: the roots up to it, itself with them.
        int notAbove = changes(p, null, 0) - changes(p, new BigInteger[] {a, b}, 2);
        return new int[] {notAbove - just, just, all - notAbove};
    }

    private static int sign(BigInteger[] p, BigInteger a, BigInteger b) {
        BigInteger sum = BigInteger.ZERO;
        for (int i = 0; i < p.length; i++) {
            sum = sum.add(p[i].multiply(a.pow(i)).multiply(b.pow(p.length - 1 - i)));
        }
        return sum.signum();
    }

    private static int changes(BigInteger[] p, BigInteger[] at, int where) {
        BigInteger[] u = p, v = slope(p);
        int before = 0, changes = 0;
        while (u.length > 0) {
            int top = u[u.length - 1].signum();
            int s = where == 0 ? (u.length % 2 == 1 ? top : -top) : where == 1 ? top : sign(u, at[0], at[1]);
            if (s != 0) {
                if (before == -s) changes++;
                before = s;
            }
            BigInteger[] r = v.length == 0 ? new BigInteger[0] : remainder(u, v);
            for (int i = 0; i < r.length; i++) r[i] = r[i].negate();
            u = v;
            v = r;
        }
        return changes;
    }
}
