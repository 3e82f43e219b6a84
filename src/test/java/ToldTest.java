/** Promises 40 to 43: finding, findings, about, digest; and that a refusal changes nothing. */
public final class ToldTest {
    private static final Due DUE = new Due();

    public static void main(String[] args) {
        findings();
        about();
        digest();
        refusals();
        DUE.end();
    }

    private static void findings() {
        DUE.part("promises 40 and 41");
        TableBench x = new TableBench();
        DUE.is("finding() at first", x.finding(), 0);
        x.lose(0);
        DUE.is("finding() of a lost leaf", x.finding(), 1);
        x.leaf(0, 0, -1);
        DUE.is("finding() of a size", x.finding(), 4);
        x.leaf(0, 3, 2);
        x.put(0, 3, 2, 0);
        DUE.is("finding() of a place", x.finding(), 2);
        x.put(0, 2, 0, 0);
        x.put(0, 1, 0, 0);
        DUE.is("finding() of a lane", x.finding(), 3);
        x.put(0, 3, 0, Double.doubleToRawLongBits(0.5));
        x.table(0, 1);
        DUE.is("finding() of a broken number", x.finding(), 5);
        x.put(0, 3, 0, Double.doubleToRawLongBits(500));
        x.table(0, 1);
        DUE.is("finding() of a great number", x.finding(), 6);
        Make.leaf(x, 0, "1 2");
        Make.leaf(x, 1, "1 2");
        x.table(0, 2);
        DUE.is("finding() of an uneven table", x.finding(), 7);
        x.table(0, 1);
        x.flow(0);
        x.pieces(0);
        x.two(0);
        DUE.is("finding() of an unfit table", x.finding(), 8);
        x.kind(9);
        x.leaf(0, 9, 9);
        x.drop(0, 0);
        DUE.is("finding() after refusals", x.finding(), 8);
        int[] due = {1, 1, 2, 1, 1, 1, 1, 3};
        for (int f = 1; f <= 8; f++) {
            DUE.is("findings(" + f + ")", x.findings(f), due[f - 1]);
        }
        int[] outside = {0, 9, -1, -11, Integer.MAX_VALUE, Integer.MIN_VALUE};
        for (int f : outside) {
            DUE.is("findings(" + f + ")", x.findings(f), TableBench.OUTSIDE);
        }
    }

    private static void about() {
        DUE.part("promise 42");
        TableBench x = new TableBench();
        DUE.says("about at first", abouts(x), "0 0 0 0 0 0 0");
        x.leaf(15, 0, 0);
        Make.table(x, "1 2 3; 2 4 5; 3 5 6");
        Make.table(x, "0 1; 1 0");
        x.flow(1);
        Make.table(x, "1 1; 1 1");
        Make.table(x, "4");
        x.shift(1, 0);
        DUE.says("about", abouts(x), "6 4 1 1 1 2 1");
        x.lose(15);
        DUE.says("about", abouts(x), "6 3 1 1 1 2 1");
        x.mix(0, 0, 1, 10);
        DUE.says("about after a finding", abouts(x), "6 3 1 1 1 2 1");
        int[] outside = {-1, 7, Integer.MAX_VALUE, Integer.MIN_VALUE};
        for (int what : outside) {
            DUE.is("about(" + what + ")", x.about(what), TableBench.OUTSIDE);
        }
    }

    private static String abouts(TableBench x) {
        StringBuilder text = new StringBuilder();
        for (int what = 0; what <= 6; what++) {
            text.append(what == 0 ? "" : " ").append(x.about(what));
        }
        return text.toString();
    }

    private static long fold(long... numbers) {
        long h = 41;
        for (long number : numbers) {
            h = 31 * h + number;
        }
        return h;
    }

    private static void digest() {
        DUE.part("promise 43");
        TableBench x = new TableBench();
        DUE.is("digest() at first", x.digest(),
            fold(-1, -1, -1, -1, -1, -1, -1, -1, -1, -1, -1, -1, -1, -1, -1, -1, 0));
        Make.table(x, "0 1; 1 0");
        x.leaf(15, 2, 0);
        x.flow(0);
        DUE.is("digest()", x.digest(), fold(2, 2, -1, -1, -1, -1, -1, -1, -1, -1, -1, -1, -1, -1, -1, 0,
            3, 2, 0, 1, 1, 0, 4, 2, 1, -1, -1, 1, 0));
        x.poly(1);
        DUE.is("digest() with 0 -2 1", x.digest(), fold(2, 2, -1, -1, -1, -1, -1, -1, -1, -1, -1, -1, -1, -1, -1, 0,
            3, 2, 0, 1, 1, 0, 4, 2, 1, -1, -1, 1, 3, 0, 0, 0, -1, 2, 2, 1, 1, 1));
        Make.table(x, "-100 0 0 0 0; 0 100 0 0 0; 0 0 100 0 0; 0 0 0 100 0; 0 0 0 0 100");
        x.worth(2);
        // Less 10^10, which is 2 times 2^32 and 1410065408.
        DUE.is("digest() with a great number", x.digest(), fold(5, 5, 5, 5, 5, -1, -1, -1, -1, -1, -1, -1, -1, -1, -1,
            0, 3, 2, 0, 1, 1, 0, 4, 2, 1, -1, -1, 1, 1, 5, -100, 0, 0, 0, 0, 0, 100, 0, 0, 0, 0, 0, 100, 0, 0, 0, 0, 0,
            100, 0, 0, 0, 0, 0, 100, 1, -1, 34, 1410065408));
    }

    /** What is refused or has a finding leaves the leaves, the tables, the result and what was seen as they were. */
    private static void refusals() {
        DUE.part("refusals");
        TableBench x = new TableBench();
        Make.table(x, "2 1; 1 2");
        Make.table(x, "1 9 0; 9 0 0; 0 0 4");
        x.shut(0, 1, 0);
        x.bound(1);
        x.poly(0);
        long before = x.digest();
        int where = x.where();
        int[] refused = {
            x.leaf(0, 9, 1), x.leaf(0, 0, 9), x.leaf(0, 0, -1), x.put(0, 3, 0, 0), x.put(0, 0, 3, 0), x.put(9, 0, 0, 0),
            x.lose(9), x.flow(0), x.turn(0, 0, 2), x.mix(0, 0, 2, 1), x.mix(1, 2, 0, 10), x.mix(0, 0, 0, 1),
            x.shift(0, 99), x.shift(0, 201), x.drop(0, 2), x.weave(1, 9), x.line(0, 0, 1), x.poly(9), x.worth(9),
            x.ring(9), x.often(0, 7), x.count(0, 6, 0, 1), x.shut(0, 2, 0), x.shut(0, 0, 21), x.bend(9), x.signs(9),
            x.show(9), x.walks(0, 1), x.walks(0, 21), x.pieces(0), x.two(0), x.trees(0), x.at(0, 2, 0), x.form(0, 16)
        };
        for (int i = 0; i < refused.length; i++) {
            boolean told = refused[i] <= -11 && refused[i] >= -18 || refused[i] <= -101 && refused[i] >= -104;
            DUE.is("refusal " + i + " is told", told ? 1 : 0, 1);
        }
        DUE.is("where()", x.where(), where);
        DUE.is("table(0, 6)", x.table(0, 6), Make.INDEX);
        DUE.is("where()", x.where(), 3);
        DUE.is("form(0, 9)", x.form(0, 9), Make.NULL);
        DUE.is("where()", x.where(), 0);
        DUE.is("digest()", x.digest(), before);
        DUE.is("seen()", x.seen(), 3);
        DUE.is("trace(0)", x.trace(0), 1);
        DUE.is("size(2)", x.size(2), TableBench.UNKNOWN);
        DUE.is("drop(1, 0), the next table", x.drop(1, 0), 2);
        DUE.says("its rows", Make.told(x, 2), "0 0; 0 4");
    }
}
