import java.math.BigInteger;
import java.util.ArrayList;
import java.util.Arrays;
import java.util.List;

/** The document once more, by other and slower means, to hold the program's answers against. */
final class Model {
    static final int NONE = -1, UNKNOWN = -101, OUTSIDE = -102, STATE = -103, FULL = -104;

    /** A table with its kind, by number. */
    static final class Square {
        final int kind;
        final int[][] m;

        Square(int kind, int[][] m) {
            this.kind = kind;
            this.m = m;
        }
    }

    final int[] lanes = new int[16];
    final long[][] leaves = new long[16][];
    final List<Square> tables = new ArrayList<>();
    List<BigInteger> result = new ArrayList<>();
    final List<Integer> trace = new ArrayList<>();
    final int[] told = new int[9];
    int where = NONE;
    int latest;
    long seen;

    // ---- leaves

    int leaf(int l, int lane, int n) {
        if (l < 0 || l > 15) return UNKNOWN;
        if (lane < 0 || lane > 3 || n > 8) return OUTSIDE;
        if (n < 0) return find(4);
        lanes[l] = lane;
        leaves[l] = new long[n];
        return n;
    }

    int put(int l, int lane, int i, long word) {
        if (l < 0 || l > 15) return UNKNOWN;
        if (lane < 0 || lane > 3) return OUTSIDE;
        if (lane == 2 && Float.isNaN(Float.intBitsToFloat((int) word))) return OUTSIDE;
        if (lane == 3 && Double.isNaN(Double.longBitsToDouble(word))) return OUTSIDE;
        if (leaves[l] == null) return find(1);
        if (lanes[l] != lane) return find(3);
        if (i < 0 || i >= leaves[l].length) return find(2);
        leaves[l][i] = word;
        return 1;
    }

    int lose(int l) {
        if (l < 0 || l > 15) return UNKNOWN;
        if (leaves[l] == null) return find(1);
        int n = leaves[l].length;
        leaves[l] = null;
        return n;
    }

    private int find(int f) {
        latest = f;
        told[f]++;
        return -10 - f;
    }

    private int find(int f, int at) {
        where = at;
        return find(f);
    }

    /** What is wrong with number k of a leaf, or 0. */
    private int fault(int l, int k) {
        if (k >= leaves[l].length) return 2;
        long w = leaves[l][k];
        if (lanes[l] == 0) return Math.abs((long) (int) w) > 100 ? 6 : 0;
        if (lanes[l] == 1) return BigInteger.valueOf(w).abs().compareTo(BigInteger.valueOf(100)) > 0 ? 6 : 0;
        double d = lanes[l] == 2 ? Float.intBitsToFloat((int) w) : Double.longBitsToDouble(w);
        if (Double.isInfinite(d) || d != Math.rint(d)) return 5;
        return Math.abs(d) > 100 ? 6 : 0;
    }

    private int whole(int l, int k) {
        long w = leaves[l][k];
        if (lanes[l] == 2) return (int) Float.intBitsToFloat((int) w);
        return lanes[l] == 3 ? (int) Double.longBitsToDouble(w) : (int) w;
    }

    // ---- tables

    int table(int first, int n) {
        if (n < 1 || n > 6 || first < 0 || (long) first + n > 16) return OUTSIDE;
        if (tables.size() >= 60) return FULL;
        int[][] m = new int[n][n];
        for (int i = 0; i < n; i++) {
            if (leaves[first + i] == null) return find(1, 10 * i);
            for (int k = 0; k < n; k++) {
                int f = fault(first + i, k);
                if (f != 0) return find(f, 10 * i + k);
                m[i][k] = whole(first + i, k);
            }
        }
        for (int i = 0; i < n; i++) {
            for (int k = 0; k < n; k++) {
                if (m[i][k] != m[k][i]) return find(7, 10 * i + k);
            }
        }
        return keep(m);
    }

    private int keep(int[][] m) {
        tables.add(new Square(kindOf(m), m));
        return tables.size() - 1;
    }

    static int kindOf(int[][] m) {
        boolean slant = true, net = true, band = true;
        for (int i = 0; i < m.length; i++) {
            for (int k = 0; k < m.length; k++) {
                slant &= i == k || m[i][k] == 0;
                band &= Math.abs(i - k) <= 1 || m[i][k] == 0;
                net &= m[i][k] == 0 || m[i][k] == 1 && i != k;
            }
        }
        return slant ? 1 : net ? 3 : band ? 2 : 0;
    }

    Square at(int t) {
        return t < 0 || t >= tables.size() ? null : tables.get(t);
    }

    int kind(int t) {
        return at(t) == null ? UNKNOWN : at(t).kind;
    }

    int size(int t) {
        return at(t) == null ? UNKNOWN : at(t).m.length;
    }

    int is(int t, int kind) {
        if (at(t) == null) return UNKNOWN;
        if (kind < 0 || kind > 4) return OUTSIDE;
        int[][] also = {{0}, {0, 1}, {0, 2}, {0, 3}, {0, 3, 4}};
        for (int one : also[at(t).kind]) {
            if (one == kind) return 1;
        }
        return 0;
    }

    private static boolean no(int i, int n) {
        return i < 0 || i >= n;
    }

    int at(int t, int i, int k) {
        if (at(t) == null) return UNKNOWN;
        int n = size(t);
        return no(i, n) || no(k, n) ? find(2) : at(t).m[i][k];
    }

    private int[][] copy(int t) {
        int[][] m = at(t).m.clone();
        for (int i = 0; i < m.length; i++) m[i] = m[i].clone();
        return m;
    }

    int flow(int t) {
        if (at(t) == null) return UNKNOWN;
        if (tables.size() == 60) return FULL;
        if (at(t).kind != 3) return find(8);
        int[][] m = copy(t);
        for (int i = 0; i < m.length; i++) {
            m[i][i] = Arrays.stream(at(t).m[i]).sum();
            for (int k = 0; k < m.length; k++) {
                if (k != i) m[i][k] = -m[i][k];
            }
        }
        tables.add(new Square(4, m));
        return tables.size() - 1;
    }

    int turn(int t, int i, int k) {
        if (at(t) == null) return UNKNOWN;
        if (tables.size() == 60) return FULL;
        int n = size(t);
        if (no(i, n) || no(k, n)) return find(2);
        int[][] m = copy(t);
        int[] row = m[i];
        m[i] = m[k];
        m[k] = row;
        for (int[] one : m) {
            int held = one[i];
            one[i] = one[k];
            one[k] = held;
        }
        return keep(m);
    }

    private int keepIfSmall(int[][] m) {
        for (int[] row : m) {
            for (int number : row) {
                if (Math.abs(number) > 100) return find(6);
            }
        }
        return keep(m);
    }

    int mix(int t, int i, int k, int f) {
        if (at(t) == null) return UNKNOWN;
        if (f < -10 || f > 10 || i == k) return OUTSIDE;
        if (tables.size() == 60) return FULL;
        int n = size(t);
        if (no(i, n) || no(k, n)) return find(2);
        int[][] m = copy(t);
        for (int j = 0; j < n; j++) m[i][j] += f * m[k][j];
        for (int j = 0; j < n; j++) m[j][i] += f * m[j][k];
        return keepIfSmall(m);
    }

    int shift(int t, int x) {
        if (at(t) == null) return UNKNOWN;
        if (x < -200 || x > 200) return OUTSIDE;
        if (tables.size() == 60) return FULL;
        int[][] m = copy(t);
        for (int i = 0; i < m.length; i++) m[i][i] += x;
        return keepIfSmall(m);
    }

    int drop(int t, int i) {
        if (at(t) == null) return UNKNOWN;
        int n = size(t);
        if (n == 1) return STATE;
        if (tables.size() == 60) return FULL;
        if (no(i, n)) return find(2);
        return keep(minor(at(t).m, i));
    }

    static int[][] minor(int[][] from, int gone) {
        int[][] m = new int[from.length - 1][from.length - 1];
        for (int a = 0, r = 0; a < from.length; a++) {
            if (a == gone) continue;
            for (int b = 0, c = 0; b < from.length; b++) {
                if (b != gone) m[r][c++] = from[a][b];
            }
            r++;
        }
        return m;
    }

    int weave(int t, int u) {
        if (at(t) == null || at(u) == null) return UNKNOWN;
        int n = size(t), o = size(u);
        if (n + o > 6) return OUTSIDE;
        if (tables.size() == 60) return FULL;
        int[][] m = new int[n + o][n + o];
        for (int i = 0; i < n; i++) System.arraycopy(at(t).m[i], 0, m[i], 0, n);
        for (int i = 0; i < o; i++) System.arraycopy(at(u).m[i], 0, m[n + i], n, o);
        return keep(m);
    }

    int line(int t, int i, int k) {
        if (at(t) == null) return UNKNOWN;
        if (i == k) return OUTSIDE;
        if (tables.size() == 60) return FULL;
        boolean zero = Arrays.stream(at(t).m).allMatch(row -> Arrays.stream(row).allMatch(v -> v == 0));
        if (at(t).kind != 3 && !zero) return find(8);
        int n = size(t);
        if (no(i, n) || no(k, n)) return find(2);
        int[][] m = copy(t);
        m[i][k] ^= 1;
        m[k][i] ^= 1;
        return keep(m);
    }

    int bound(int t) {
        trace.clear();
        if (at(t) == null) return UNKNOWN;
        switch (at(t).kind) {
            case 1: trace.add(2); break;
            case 3: trace.addAll(List.of(3, 1)); break;
            case 4: trace.addAll(List.of(4, 3, 1)); break;
            default: trace.add(1);
        }
        int most = 0;
        for (int[] row : at(t).m) most = Math.max(most, Arrays.stream(row).map(Math::abs).sum());
        return most;
    }

    int trace(int k) {
        return no(k, trace.size()) ? NONE : trace.get(k);
    }

    // ---- own values

    int poly(int t) {
        return at(t) == null ? UNKNOWN : say(List.of(Poly.ofTable(at(t).m)));
    }

    private int say(List<BigInteger> numbers) {
        result = new ArrayList<>(numbers);
        return result.size();
    }

    int worth(int t) {
        return at(t) == null ? UNKNOWN : say(List.of(Poly.worth(at(t).m)));
    }

    int ring(int t) {
        return at(t) == null ? UNKNOWN : say(List.of(Poly.least(Poly.ofTable(at(t).m))));
    }

    int often(int t, int j) {
        if (at(t) == null) return UNKNOWN;
        if (j < 1 || j > 6) return OUTSIDE;
        BigInteger[] left = Poly.ofTable(at(t).m);
        for (int step = 1; step < j && left.length > 1; step++) {
            left = Poly.over(left, Poly.least(left));
        }
        return left.length == 1 ? 0 : Poly.least(left).length - 1;
    }

    int count(int t, int what, int a, int b) {
        if (at(t) == null) return UNKNOWN;
        if (what < 0 || what > 5 || b < 1 || b > 1000 || Math.abs((long) a) > 1000000) return OUTSIDE;
        BigInteger[] left = Poly.ofTable(at(t).m);
        int sum = 0;
        for (int step = 0; step < (what < 3 ? 6 : 1) && left.length > 1; step++) {
            BigInteger[] least = Poly.least(left);
            sum += Poly.weigh(least, BigInteger.valueOf(a), BigInteger.valueOf(b))[what % 3];
            left = Poly.over(left, least);
        }
        return sum;
    }

    int shut(int t, int i, int k) {
        if (at(t) == null) return UNKNOWN;
        if (k < 0 || k > 20) return OUTSIDE;
        BigInteger[] least = Poly.least(Poly.ofTable(at(t).m));
        if (i < 0 || i >= least.length - 1) return find(2);
        BigInteger part = BigInteger.ONE.shiftLeft(k);
        long low = -(1L << 40), high = 1L << 40;
        while (high - low > 1) {
            long middle = Math.floorDiv(low + high, 2L);
            if (Poly.weigh(least, BigInteger.valueOf(middle), part)[0] <= i) low = middle;
            else high = middle;
        }
        seen = low;
        // It is not below low / part; so it is just that if it is one of those that are not above.
        int[] parts = Poly.weigh(least, BigInteger.valueOf(low), part);
        return parts[0] + parts[1] > i ? 1 : 0;
    }

    int same(int t, int u) {
        if (at(t) == null || at(u) == null) return UNKNOWN;
        return Arrays.equals(Poly.ofTable(at(t).m), Poly.ofTable(at(u).m)) ? 1 : 0;
    }

    // ---- forms

    int bend(int t) {
        if (at(t) == null) return UNKNOWN;
        Bent bent = new Bent(at(t).m);
        List<BigInteger> all = new ArrayList<>(Arrays.asList(bent.d()));
        for (BigInteger[] row : bent.rows) all.addAll(Arrays.asList(row));
        return say(all);
    }

    int signs(int t) {
        if (at(t) == null) return UNKNOWN;
        // By Sylvester's law, from the own values: another road than the bending.
        int[] parts = new int[3];
        BigInteger[] left = Poly.ofTable(at(t).m);
        while (left.length > 1) {
            BigInteger[] least = Poly.least(left);
            int[] some = Poly.weigh(least, BigInteger.ZERO, BigInteger.ONE);
            for (int i = 0; i < 3; i++) parts[i] += some[i];
            left = Poly.over(left, least);
        }
        return 100 * parts[2] + 10 * parts[1] + parts[0];
    }

    int show(int t) {
        if (at(t) == null) return UNKNOWN;
        Bent bent = new Bent(at(t).m);
        BigInteger[] d = bent.d();
        for (int i = 0; i < d.length; i++) {
            if (d[i].signum() <= 0) return say(Arrays.asList(bent.rows[i]));
        }
        return NONE;
    }

    int form(int t, int l) {
        if (at(t) == null || l < 0 || l > 15) return UNKNOWN;
        if (leaves[l] == null) return find(1, 0);
        int n = size(t);
        for (int k = 0; k < n; k++) {
            int f = fault(l, k);
            if (f != 0) return find(f, k);
        }
        BigInteger sum = BigInteger.ZERO, squares = BigInteger.ZERO;
        for (int i = 0; i < n; i++) {
            BigInteger x = BigInteger.valueOf(whole(l, i));
            squares = squares.add(x.multiply(x));
            for (int k = 0; k < n; k++) {
                sum = sum.add(x.multiply(BigInteger.valueOf((long) at(t).m[i][k] * whole(l, k))));
            }
        }
        return say(List.of(sum, squares));
    }

    // ---- nets

    int walks(int t, int k) {
        if (at(t) == null) return UNKNOWN;
        if (k < 0 || k > 20) return OUTSIDE;
        if (at(t).kind != 3) return find(8);
        int n = size(t);
        BigInteger all = BigInteger.ZERO;
        for (int start = 0; start < n; start++) {
            BigInteger[] ways = new BigInteger[n];
            Arrays.fill(ways, BigInteger.ZERO);
            ways[start] = BigInteger.ONE;
            for (int step = 0; step < k; step++) {
                BigInteger[] next = new BigInteger[n];
                Arrays.fill(next, BigInteger.ZERO);
                for (int a = 0; a < n; a++) {
                    for (int b = 0; b < n; b++) {
                        if (at(t).m[a][b] == 1) next[b] = next[b].add(ways[a]);
                    }
                }
                ways = next;
            }
            all = all.add(ways[start]);
        }
        return say(List.of(all));
    }

    private boolean isNet(int t) {
        return at(t).kind == 3 || at(t).kind == 4;
    }

    private static int root(int[] up, int i) {
        return up[i] == i ? i : root(up, up[i]);
    }

    private List<int[]> lines(int t) {
        List<int[]> lines = new ArrayList<>();
        for (int i = 0; i < size(t); i++) {
            for (int k = 0; k < i; k++) {
                if (at(t).m[i][k] != 0) lines.add(new int[] {i, k});
            }
        }
        return lines;
    }

    int pieces(int t) {
        if (at(t) == null) return UNKNOWN;
        if (!isNet(t)) return find(8);
        int n = size(t), left = n;
        int[] up = new int[n];
        for (int i = 0; i < n; i++) up[i] = i;
        for (int[] line : lines(t)) {
            int a = root(up, line[0]), b = root(up, line[1]);
            if (a != b) {
                up[a] = b;
                left--;
            }
        }
        return left;
    }

    int two(int t) {
        if (at(t) == null) return UNKNOWN;
        if (!isNet(t)) return find(8);
        for (int part = 0; part < 1 << size(t); part++) {
            int p = part;
            if (lines(t).stream().allMatch(line -> (p >> line[0] & 1) != (p >> line[1] & 1))) return 1;
        }
        return 0;
    }

    int trees(int t) {
        if (at(t) == null) return UNKNOWN;
        if (at(t).kind != 4) return find(8);
        int n = size(t), found = 0;
        List<int[]> lines = lines(t);
        for (int left = 0; left < 1 << lines.size(); left++) {
            if (Integer.bitCount(left) != n - 1) continue;
            int[] up = new int[n];
            for (int i = 0; i < n; i++) up[i] = i;
            boolean tree = true;
            for (int j = 0; j < lines.size() && tree; j++) {
                if ((left >> j & 1) == 0) continue;
                int a = root(up, lines.get(j)[0]), b = root(up, lines.get(j)[1]);
                tree = a != b;
                up[a] = b;
            }
            if (tree) found++;
        }
        return say(List.of(BigInteger.valueOf(found)));
    }

    // ---- the result, and what is told

    int sign(int i) {
        return no(i, result.size()) ? 0 : result.get(i).signum();
    }

    int bits(int i) {
        return no(i, result.size()) ? 0 : result.get(i).abs().bitLength();
    }

    long word(int i, int k) {
        if (no(i, result.size()) || k < 0 || k > 1000) return 0;
        return result.get(i).abs().shiftRight(32 * k).longValue() & 0xffffffffL;
    }

    int findings(int f) {
        return f < 1 || f > 8 ? OUTSIDE : told[f];
    }

    int about(int what) {
        if (what < 0 || what > 6) return OUTSIDE;
        if (what == 0) return tables.size();
        if (what == 1) return (int) Arrays.stream(leaves).filter(row -> row != null).count();
        return (int) tables.stream().filter(one -> one.kind == what - 2).count();
    }

    long digest() {
        List<Long> all = new ArrayList<>();
        for (long[] leaf : leaves) all.add(leaf == null ? -1L : leaf.length);
        for (Square one : tables) {
            all.add((long) one.kind);
            all.add((long) one.m.length);
            for (int[] row : one.m) {
                for (int number : row) all.add((long) number);
            }
        }
        all.add((long) result.size());
        for (int i = 0; i < result.size(); i++) {
            all.add((long) sign(i));
            all.add((long) bits(i));
            all.add(word(i, 0));
        }
        long h = 41;
        for (long number : all) h = 31 * h + number;
        return h;
    }
}
