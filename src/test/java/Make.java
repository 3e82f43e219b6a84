import java.math.BigInteger;

/** Makes leaves and tables from texts, and tells tables and results as texts. */
final class Make {
    static final int NULL = -11, INDEX = -12, CAST = -13, SIZE = -14;
    static final int BROKEN = -15, GREAT = -16, UNEVEN = -17, UNFIT = -18;

    private Make() {
    }

    /** A leaf of ints, as "1 -2 3". */
    static void leaf(TableBench x, int l, String numbers) {
        String[] parts = numbers.trim().split(" +");
        x.leaf(l, 0, parts.length);
        for (int i = 0; i < parts.length; i++) {
            x.put(l, 0, i, Long.parseLong(parts[i]));
        }
    }

    /** A table in rows, as "1 2; 2 1", by the leaves from 0 on: what table() answers. */
    static int table(TableBench x, String rows) {
        String[] parts = rows.split(";");
        for (int i = 0; i < parts.length; i++) {
            leaf(x, i, parts[i]);
        }
        return x.table(0, parts.length);
    }

    static String told(TableBench x, int t) {
        StringBuilder text = new StringBuilder();
        for (int i = 0; i < x.size(t); i++) {
            text.append(i == 0 ? "" : "; ");
            for (int k = 0; k < x.size(t); k++) {
                text.append(k == 0 ? "" : " ").append(x.at(t, i, k));
            }
        }
        return text.toString();
    }

    static String result(TableBench x) {
        StringBuilder text = new StringBuilder();
        for (int i = 0; i < x.results(); i++) {
            text.append(i == 0 ? "" : " ").append(number(x, i));
        }
        return text.toString();
    }

    private static BigInteger number(TableBench x, int i) {
        BigInteger size = BigInteger.ZERO;
        for (int k = 11; k >= 0; k--) {
            size = size.shiftLeft(32).or(BigInteger.valueOf(x.word(i, k)));
        }
        return size.multiply(BigInteger.valueOf(x.sign(i)));
    }
}
