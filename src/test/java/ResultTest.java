/** Promises 36 to 39: results, sign, bits, word. */
public final class ResultTest {
    private static final Due DUE = new Due();

    public static void main(String[] args) {
        DUE.part("promises 36 to 39");
        TableBench x = new TableBench();
        DUE.is("results() at first", x.results(), 0);
        none(x, 0);
        Make.table(x, "100 0 0 0 0 0; 0 -100 0 0 0 0; 0 0 100 0 0 0; 0 0 0 100 0 0; 0 0 0 0 100 0; 0 0 0 0 0 100");
        x.worth(0);
        // Less 10^12, which is 232 times 2^32 and 3567587328.
        DUE.is("results()", x.results(), 1);
        DUE.is("sign(0)", x.sign(0), -1);
        DUE.is("bits(0)", x.bits(0), 40);
        DUE.is("word(0, 0)", x.word(0, 0), 3567587328L);
        DUE.is("word(0, 1)", x.word(0, 1), 232);
        int[] words = {-1, 2, 3, 11, 12, 13, 1000, Integer.MAX_VALUE, Integer.MIN_VALUE, 1 << 27, -(1 << 27), 1 << 28};
        for (int k : words) {
            DUE.is("word(0, " + k + ")", x.word(0, k), 0);
        }
        none(x, 1);
        x.poly(0);
        DUE.is("results() of poly", x.results(), 7);
        DUE.is("sign(6)", x.sign(6), 1);
        none(x, 7);
        x.worth(0);
        none(x, 1);
        sizes();
        x.bend(0);
        DUE.is("results() of bend", x.results(), 42);
        DUE.is("sign(41)", x.sign(41), 1);
        DUE.is("bits(40)", x.bits(40), 0);
        none(x, 42);
        DUE.end();
    }

    /** There is no number i, and none from it on or below 0. */
    private static void none(TableBench x, int i) {
        int[] places = {i, i + 1, 48, 49, Integer.MAX_VALUE, -1, Integer.MIN_VALUE};
        for (int at : places) {
            DUE.is("sign(" + at + ")", x.sign(at), 0);
            DUE.is("bits(" + at + ")", x.bits(at), 0);
            DUE.is("word(" + at + ", 0)", x.word(at, 0), 0);
        }
    }

    /** Worths about the powers of two, each as a product of numbers where i is k. */
    private static void sizes() {
        String[][] due = {
            {"0", "0", "0", "0"}, {"1", "1", "1", "1"}, {"-1", "-1", "1", "1"}, {"2", "1", "2", "2"},
            {"-64 64 64 64 32", "-1", "30", "536870912"}, {"64 64 64 64 64", "1", "31", "1073741824"},
            {"64 64 64 64 64 2", "1", "32", "2147483648"}, {"64 64 64 64 64 4", "1", "33", "0"},
            {"-77 93 13 99 71", "-1", "30", "654350697"}
        };
        for (String[] one : due) {
            TableBench x = new TableBench();
            int t = Make.table(x, slant(one[0].split(" ")));
            x.worth(t);
            DUE.is("sign of the worth of " + one[0], x.sign(0), Integer.parseInt(one[1]));
            DUE.is("bits of it", x.bits(0), Integer.parseInt(one[2]));
            DUE.is("its lowest word", x.word(0, 0), Long.parseLong(one[3]));
        }
    }

    private static String slant(String[] numbers) {
        StringBuilder rows = new StringBuilder();
        for (int i = 0; i < numbers.length; i++) {
            rows.append(i == 0 ? "" : ";");
            for (int k = 0; k < numbers.length; k++) {
                rows.append(' ').append(i == k ? numbers[i] : "0");
            }
        }
        return rows.toString();
    }
}
