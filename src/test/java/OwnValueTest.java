/** Promises 20 to 27: poly, worth, ring, often, count, shut, seen, same. */
public final class OwnValueTest {
    private static final Due DUE = new Due();
    // Own values 1 and 3; 2, -1, -1; 0 five times and 600; 1, 2, 2, 3, 3, 3; the roots of 2; -7; 0, 0.
    private static final String[] TABLES = {
        "2 1; 1 2", "0 1 1; 1 0 1; 1 1 0",
        "100 -100 100 -100 100 -100; -100 100 -100 100 -100 100; 100 -100 100 -100 100 -100; "
            + "-100 100 -100 100 -100 100; 100 -100 100 -100 100 -100; -100 100 -100 100 -100 100",
        "3 0 0 0 0 0; 0 1 0 0 0 0; 0 0 3 0 0 0; 0 0 0 2 0 0; 0 0 0 0 3 0; 0 0 0 0 0 2", "1 1; 1 -1", "-7", "0 0; 0 0"
    };

    public static void main(String[] args) {
        polynomials();
        often();
        count();
        shut();
        shutBehindAnother();
        same();
        DUE.end();
    }

    private static TableBench bench() {
        TableBench x = new TableBench();
        for (String rows : TABLES) {
            Make.table(x, rows);
        }
        return x;
    }

    private static void polynomials() {
        String[] poly = {"3 -4 1", "-2 -3 0 1", "0 0 0 0 0 -600 1", product(1, 2, 2, 3, 3, 3), "-2 0 1", "7 1",
            "0 0 1"};
        String[] worth = {"3", "2", "0", "108", "-2", "-7", "0"};
        String[] ring = {"3 -4 1", "-2 -1 1", "0 -600 1", "-6 11 -6 1", "-2 0 1", "7 1", "0 1"};
        TableBench x = bench();
        for (int t = 0; t < TABLES.length; t++) {
            DUE.part("promise 20");
            DUE.is("poly(" + t + ")", x.poly(t), x.size(t) + 1);
            DUE.says("the result", Make.result(x), poly[t]);
            DUE.part("promise 21");
            DUE.is("worth(" + t + ")", x.worth(t), 1);
            DUE.says("the result", Make.result(x), worth[t]);
            DUE.part("promise 22");
            DUE.is("ring(" + t + ")", x.ring(t), ring[t].split(" ").length);
            DUE.says("the result", Make.result(x), ring[t]);
        }
        x.poly(0);
        int[] none = {-1, TABLES.length, 60, Integer.MAX_VALUE, Integer.MIN_VALUE};
        for (int t : none) {
            DUE.is("poly(" + t + ")", x.poly(t), TableBench.UNKNOWN);
            DUE.is("worth(" + t + ")", x.worth(t), TableBench.UNKNOWN);
            DUE.is("ring(" + t + ")", x.ring(t), TableBench.UNKNOWN);
        }
        DUE.says("the result stays", Make.result(x), "3 -4 1");
    }

    /** The polynomial that has these roots. */
    private static String product(int... roots) {
        long[] numbers = new long[roots.length + 1];
        numbers[0] = 1;
        for (int root : roots) {
            for (int i = numbers.length - 1; i >= 0; i--) {
                numbers[i] = (i > 0 ? numbers[i - 1] : 0) - root * numbers[i];
            }
        }
        StringBuilder text = new StringBuilder();
        for (int i = 0; i < numbers.length; i++) {
            text.append(i == 0 ? "" : " ").append(numbers[i]);
        }
        return text.toString();
    }

    private static void often() {
        DUE.part("promise 23");
        TableBench x = bench();
        int[][] due = {{2, 0, 0, 0, 0, 0}, {2, 1, 0, 0, 0, 0}, {2, 1, 1, 1, 1, 0}, {3, 2, 1, 0, 0, 0},
            {2, 0, 0, 0, 0, 0}, {1, 0, 0, 0, 0, 0}, {1, 1, 0, 0, 0, 0}};
        for (int t = 0; t < due.length; t++) {
            for (int j = 1; j <= 6; j++) {
                DUE.is("often(" + t + ", " + j + ")", x.often(t, j), due[t][j - 1]);
            }
        }
        Make.table(x, "4 0 0 0 0 0; 0 4 0 0 0 0; 0 0 4 0 0 0; 0 0 0 4 0 0; 0 0 0 0 4 0; 0 0 0 0 0 4");
        DUE.is("often(7, 6)", x.often(7, 6), 1);
        DUE.is("often(0, 0)", x.often(0, 0), TableBench.OUTSIDE);
        DUE.is("often(0, 7)", x.often(0, 7), TableBench.OUTSIDE);
        DUE.is("often(8, 0)", x.often(8, 0), TableBench.UNKNOWN);
        DUE.is("often(-1, 1)", x.often(-1, 1), TableBench.UNKNOWN);
    }

    private static void count() {
        DUE.part("promise 24");
        TableBench x = bench();
        // Table 3: 1, 2, 2, 3, 3, 3.
        counts(x, 3, 2, 1, "1 2 3 1 1 1");
        counts(x, 3, 4, 2, "1 2 3 1 1 1");
        counts(x, 3, 5, 2, "3 0 3 2 0 1");
        counts(x, 3, 0, 1, "0 0 6 0 0 3");
        counts(x, 3, 3000, 1000, "3 3 0 2 1 0");
        counts(x, 3, 2999, 1000, "3 0 3 2 0 1");
        counts(x, 3, 3001, 1000, "6 0 0 3 0 0");
        counts(x, 3, 1000000, 1, "6 0 0 3 0 0");
        counts(x, 3, -1000000, 1000, "0 0 6 0 0 3");
        counts(x, 2, 600000, 1000, "5 1 0 1 1 0");
        counts(x, 2, 599999, 1000, "5 0 1 1 0 1");
        counts(x, 2, 0, 7, "0 5 1 0 1 1");
        counts(x, 2, -1, 1000, "0 0 6 0 0 2");
        // Table 4: 1.41421.. and less it.
        counts(x, 4, 1414, 1000, "1 0 1 1 0 1");
        counts(x, 4, 1415, 1000, "2 0 0 2 0 0");
        counts(x, 4, -1414, 1000, "1 0 1 1 0 1");
        counts(x, 4, -1415, 1000, "0 0 2 0 0 2");
        counts(x, 5, -7, 1, "0 1 0 0 1 0");
        int[][] outside = {{-1, 0, 1}, {6, 0, 1}, {0, 0, 0}, {0, 0, -1}, {0, 0, 1001}, {0, 1000001, 1}, 
            {0, -1000001, 1}, {0, Integer.MIN_VALUE, 1}, {0, 0, Integer.MAX_VALUE}};
        for (int[] one : outside) {
            String call = "count(0, " + one[0] + ", " + one[1] + ", " + one[2] + ")";
            DUE.is(call, x.count(0, one[0], one[1], one[2]), TableBench.OUTSIDE);
        }
        DUE.is("count(7, 6, 0, 0)", x.count(7, 6, 0, 0), TableBench.UNKNOWN);
        DUE.is("count(-1, 0, 0, 1)", x.count(-1, 0, 0, 1), TableBench.UNKNOWN);
    }

    private static void counts(TableBench x, int t, int a, int b, String due) {
        StringBuilder text = new StringBuilder();
        for (int what = 0; what < 6; what++) {
            text.append(what == 0 ? "" : " ").append(x.count(t, what, a, b));
        }
        DUE.says("counts of " + t + " at " + a + " / " + b, text.toString(), due);
    }

    private static void shut() {
        DUE.part("promises 25 and 26");
        TableBench x = bench();
        DUE.is("seen() at first", x.seen(), 0);
        shut(x, 0, 0, 0, 1, 1);
        shut(x, 0, 1, 20, 1, 3 << 20);
        shut(x, 1, 0, 0, 1, -1);
        shut(x, 1, 1, 3, 1, 16);
        shut(x, 2, 1, 20, 1, 629145600);
        shut(x, 2, 0, 20, 1, 0);
        shut(x, 3, 2, 1, 1, 6);
        shut(x, 4, 1, 0, 0, 1);
        shut(x, 4, 0, 0, 0, -2);
        // 1.41421356 times 2^20 is 1482910.4.
        shut(x, 4, 1, 20, 0, 1482910);
        shut(x, 4, 0, 20, 0, -1482911);
        shut(x, 5, 0, 2, 1, -28);
        shut(x, 6, 0, 5, 1, 0);
        shut(x, 5, 0, 0, 1, -7);
        DUE.is("shut(0, 2, 0)", x.shut(0, 2, 0), Make.INDEX);
        DUE.is("shut(0, -1, 0)", x.shut(0, -1, 0), Make.INDEX);
        DUE.is("shut(2, 2, 0), there are two unlike ones", x.shut(2, 2, 0), Make.INDEX);
        DUE.is("shut(0, 9, 21)", x.shut(0, 9, 21), TableBench.OUTSIDE);
        DUE.is("shut(0, 0, -1)", x.shut(0, 0, -1), TableBench.OUTSIDE);
        DUE.is("shut(9, 0, 21)", x.shut(9, 0, 21), TableBench.UNKNOWN);
        DUE.is("seen() stays", x.seen(), -7);
        Make.table(x, "-100 -100 -100; -100 -100 -100; -100 -100 -100");
        shut(x, 7, 0, 20, 1, -300 * (1 << 20));
        leastOfAll();
        // The roots of x^2 - 100 x - 1 are 100.009999 and -0.009999; of 0 and 100 they are but near.
        Make.table(x, "100 1; 1 0");
        shut(x, 8, 1, 6, 0, 6400);
        shut(x, 8, 0, 6, 0, -1);
        shut(x, 8, 1, 7, 0, 12801);
    }

    /** Two unlike own values in one part: what the one is just at is not told of the other. */
    private static void shutBehindAnother() {
        TableBench x = new TableBench();
        // 0, 0.38.., 2.61..
        Make.table(x, "0 0 0; 0 1 1; 0 1 2");
        shuts(x, 0, 0, "1 0, 0 0, 0 2");
        shuts(x, 0, 1, "1 0, 0 0, 0 5");
        shuts(x, 0, 2, "1 0, 0 1, 0 10");
        // -3, -2.61.., -0.38..
        x.shift(0, -3);
        shuts(x, 1, 0, "1 -3, 0 -3, 0 -1");
        shuts(x, 1, 1, "1 -6, 0 -6, 0 -1");
        shuts(x, 1, 2, "1 -12, 0 -11, 0 -2");
        // -0.61.., 0, 1.61..: the one that is just at a part is the later one.
        Make.table(x, "0 1 0; 1 1 0; 0 0 0");
        shuts(x, 2, 0, "0 -1, 1 0, 0 1");
        // 1 twice, 1.26.., 3, 4.73..: of the two at whole numbers only the first has another one close behind it.
        Make.table(x, "1 0 0 0 0; 0 1 0 0 0; 0 0 2 1 0; 0 0 1 3 1; 0 0 0 1 4");
        shuts(x, 3, 0, "1 1, 0 1, 1 3, 0 4");
        shuts(x, 3, 1, "1 2, 0 2, 1 6, 0 9");
        shuts(x, 3, 2, "1 4, 0 5, 1 12, 0 18");
        // 0, 0.26.., 0.38.., 2.61.., 3.73..: three in one part.
        Make.table(x, "0 0 0 0 0; 0 1 1 0 0; 0 1 2 0 0; 0 0 0 1 1; 0 0 0 1 3");
        shuts(x, 4, 0, "1 0, 0 0, 0 0, 0 2, 0 3");
        shuts(x, 4, 2, "1 0, 0 1, 0 2, 0 10, 0 13");
        closestBehind();
    }

    /** The own value behind 0, or ahead of it, is so near that even parts of 2^20 don't part them. */
    private static void closestBehind() {
        TableBench x = new TableBench();
        // Worth 1 without the first row, the greater four own values being near 82: the least is near 0.00000002.
        Make.table(x, "0 0 0 0 0 0; 0 1 9 0 0 0; 0 9 82 9 0 0; 0 0 9 82 9 0; 0 0 0 9 82 9; 0 0 0 0 9 82");
        Make.table(x, "0 0 0 0 0 0; 0 -1 -9 0 0 0; 0 -9 -82 -9 0 0; 0 0 -9 -82 -9 0; 0 0 0 -9 -82 -9; "
            + "0 0 0 0 -9 -82");
        x.shift(0, 18);
        for (int k = 0; k <= 20; k += 5) {
            shut(x, 0, 0, k, 1, 0);
            shut(x, 0, 1, k, 0, 0);
            shut(x, 1, 4, k, 0, -1);
            shut(x, 1, 5, k, 1, 0);
            shut(x, 2, 0, k, 1, 18L << k);
            shut(x, 2, 1, k, 0, 18L << k);
        }
    }

    /** Each of all unlike own values, in order: what is answered, and seen. */
    private static void shuts(TableBench x, int t, int k, String due) {
        String[] parts = due.split(", ");
        for (int i = 0; i < parts.length; i++) {
            String[] part = parts[i].split(" ");
            shut(x, t, i, k, Integer.parseInt(part[0]), Long.parseLong(part[1]));
        }
        DUE.is("shut(" + t + ", " + parts.length + ", " + k + ")", x.shut(t, parts.length, k), Make.INDEX);
    }

    /** Less 600 is the least own value that there can be. */
    private static void leastOfAll() {
        TableBench x = new TableBench();
        for (int i = 0; i < 6; i++) {
            Make.leaf(x, i, "-100 -100 -100 -100 -100 -100");
        }
        x.table(0, 6);
        shut(x, 0, 0, 20, 1, -629145600);
        shut(x, 0, 0, 0, 1, -600);
        shut(x, 0, 1, 20, 1, 0);
        counts(x, 0, -600, 1, "0 1 5 0 1 1");
    }

    private static void shut(TableBench x, int t, int i, int k, int due, long seen) {
        String call = "shut(" + t + ", " + i + ", " + k + ")";
        DUE.is(call, x.shut(t, i, k), due);
        DUE.is("seen() after " + call, x.seen(), seen);
    }

    private static void same() {
        DUE.part("promise 27");
        TableBench x = bench();
        for (int t = 0; t < TABLES.length; t++) {
            for (int u = 0; u < TABLES.length; u++) {
                DUE.is("same(" + t + ", " + u + ")", x.same(t, u), t == u ? 1 : 0);
            }
        }
        Make.table(x, "1 0; 0 3");
        DUE.is("same(0, 7), other numbers", x.same(0, 7), 1);
        Make.table(x, "1 0 0; 0 3 0; 0 0 3");
        Make.table(x, "1 0 0; 0 1 0; 0 0 3");
        DUE.is("same(8, 9), not as often", x.same(8, 9), 0);
        DUE.is("same(7, 8), other sizes", x.same(7, 8), 0);
        Make.table(x, "0 0 0; 0 0 0; 0 0 0");
        DUE.is("same(6, 10), 0 and other sizes", x.same(6, 10), 0);
        DUE.is("same(10, 6), 0 and other sizes", x.same(10, 6), 0);
        DUE.is("same(0, 11)", x.same(0, 11), TableBench.UNKNOWN);
        DUE.is("same(11, 0)", x.same(11, 0), TableBench.UNKNOWN);
        DUE.is("same(-1, -1)", x.same(-1, -1), TableBench.UNKNOWN);
    }
}
