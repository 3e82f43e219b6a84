/** Promises 5 to 10: table, where, kind, size, is, at. */
public final class TableTest {
    private static final Due DUE = new Due();

    public static void main(String[] args) {
        table();
        words();
        kinds();
        numbers();
        DUE.end();
    }

    private static void table() {
        DUE.part("promises 5 and 6");
        TableBench x = new TableBench();
        DUE.is("where()", x.where(), TableBench.NONE);
        int[][] outside = {{0, 0}, {0, 7}, {0, -1}, {-1, 1}, {16, 1}, {11, 6}, {Integer.MAX_VALUE, 1}};
        for (int[] one : outside) {
            DUE.is("table(" + one[0] + ", " + one[1] + ")", x.table(one[0], one[1]), TableBench.OUTSIDE);
        }
        DUE.is("table(10, 6) of lost leaves", x.table(10, 6), Make.NULL);
        DUE.is("where()", x.where(), 0);
        Make.leaf(x, 0, "1 2 3");
        Make.leaf(x, 1, "2 5");
        DUE.is("table(0, 3), short", x.table(0, 3), Make.INDEX);
        DUE.is("where()", x.where(), 12);
        Make.leaf(x, 1, "2 5 101");
        DUE.is("table(0, 3), great", x.table(0, 3), Make.GREAT);
        DUE.is("where()", x.where(), 12);
        Make.leaf(x, 1, "4 5 6");
        DUE.is("table(0, 3), lost", x.table(0, 3), Make.NULL);
        DUE.is("where()", x.where(), 20);
        Make.leaf(x, 2, "3 7 8 101");
        DUE.is("table(0, 3), uneven", x.table(0, 3), Make.UNEVEN);
        DUE.is("where()", x.where(), 1);
        x.put(1, 0, 0, 2);
        DUE.is("table(0, 3), uneven", x.table(0, 3), Make.UNEVEN);
        DUE.is("where()", x.where(), 12);
        x.put(2, 0, 1, 6);
        DUE.is("table(0, 3)", x.table(0, 3), 0);
        DUE.is("where() stays", x.where(), 12);
        DUE.says("its rows", Make.told(x, 0), "1 2 3; 2 5 6; 3 6 8");
        DUE.is("table(0, 1)", x.table(0, 1), 1);
        DUE.says("its rows", Make.told(x, 1), "1");
        DUE.is("table(1, 2), uneven", x.table(1, 2), Make.UNEVEN);
        DUE.is("where()", x.where(), 1);
        x.put(0, 0, 0, 9);
        DUE.is("at(0, 0, 0) after put", x.at(0, 0, 0), 1);
        DUE.is("table(0, 9) changes not where()", x.table(0, 9), TableBench.OUTSIDE);
        DUE.is("where()", x.where(), 1);
        Make.leaf(x, 15, "4");
        DUE.is("table(15, 1), the last leaf", x.table(15, 1), 2);
        while (x.about(0) < 60) {
            x.table(15, 1);
        }
        DUE.is("table(14, 1) when full", x.table(14, 1), TableBench.FULL);
        DUE.is("table(0, 7) when full", x.table(0, 7), TableBench.OUTSIDE);
        DUE.is("where() stays", x.where(), 1);
        DUE.is("kind(59)", x.kind(59), 1);
    }

    private static void words() {
        DUE.part("promise 5, words");
        double[] whole = {0, -0.0, 1, -1, 3, 64, 99, 100, -100};
        for (double number : whole) {
            DUE.is("as a float " + number, one(2, Float.floatToRawIntBits((float) number)), (int) number);
            DUE.is("as a double " + number, one(3, Double.doubleToRawLongBits(number)), (int) number);
        }
        double[] broken = {0.5, -0.5, 1.5, 63.999, 100.5, -100.5, 1e-30, 4194303.5};
        for (double number : broken) {
            DUE.is("as a float " + number, one(2, Float.floatToRawIntBits((float) number)), Make.BROKEN);
            DUE.is("as a double " + number, one(3, Double.doubleToRawLongBits(number)), Make.BROKEN);
        }
        DUE.is("the least float", one(2, 1), Make.BROKEN);
        DUE.is("the least double", one(3, 1), Make.BROKEN);
        DUE.is("a double, broken by its last bit", one(3, Double.doubleToRawLongBits(Math.nextUp(100.0))), Make.BROKEN);
        DUE.is("an endless float", one(2, 0x7f800000L), Make.BROKEN);
        DUE.is("an endless float below 0", one(2, 0xff800000L), Make.BROKEN);
        DUE.is("an endless double", one(3, 0x7ff0000000000000L), Make.BROKEN);
        DUE.is("an endless double below 0", one(3, 0xfff0000000000000L), Make.BROKEN);
        double[] great = {101, -101, 128, 8388607, 8388609, 16777216, 1e30, -1e30};
        for (double number : great) {
            DUE.is("as a float " + number, one(2, Float.floatToRawIntBits((float) number)), Make.GREAT);
            DUE.is("as a double " + number, one(3, Double.doubleToRawLongBits(number)), Make.GREAT);
        }
        DUE.is("the greatest double", one(3, Double.doubleToRawLongBits(Double.MAX_VALUE)), Make.GREAT);
        long[] longs = {101, -101, Long.MAX_VALUE, Long.MIN_VALUE, 1L << 32};
        for (long number : longs) {
            DUE.is("as a long " + number, one(1, number), Make.GREAT);
        }
        long[] ints = {101, -101, Integer.MAX_VALUE, Integer.MIN_VALUE};
        for (long number : ints) {
            DUE.is("as an int " + number, one(0, number), Make.GREAT);
        }
        DUE.is("as a long -100", one(1, -100), -100);
        DUE.is("as an int 100", one(0, 100), 100);
    }

    /** What a table of one number has there; else the finding. */
    private static int one(int lane, long word) {
        TableBench x = new TableBench();
        x.leaf(3, lane, 1);
        x.put(3, lane, 0, word);
        int t = x.table(3, 1);
        return t == 0 ? x.at(0, 0, 0) : t;
    }

    private static void kinds() {
        DUE.part("promises 7 and 9");
        String[] tables = {
            "1 2 3; 2 1 2; 3 2 1", "1 0; 0 -5", "1 2 0; 2 1 2; 0 2 1", "0 1 1; 1 0 0; 1 0 0", "0 0; 0 0", "0", "7",
            "0 1; 1 0", "0 -1; -1 0", "0 2; 2 0", "1 1; 1 0", "0 1 0 0; 1 0 1 0; 0 1 0 1; 0 0 1 0",
            "0 0 1; 0 0 0; 1 0 0", "0 0 2; 0 0 0; 2 0 0", "1 0 0; 0 0 1; 0 1 0"
        };
        int[] due = {0, 1, 2, 3, 1, 1, 1, 3, 2, 2, 2, 3, 3, 0, 2};
        String[] also = {"10000", "11000", "10100", "10010", "11000", "11000", "11000", "10010", "10100", "10100",
            "10100", "10010", "10010", "10000", "10100"};
        TableBench x = new TableBench();
        DUE.is("kind(0) of none", x.kind(0), TableBench.UNKNOWN);
        DUE.is("is(0, 9) of none", x.is(0, 9), TableBench.UNKNOWN);
        for (int i = 0; i < tables.length; i++) {
            int t = Make.table(x, tables[i]);
            DUE.is("kind of " + tables[i], x.kind(t), due[i]);
            DUE.says("is of " + tables[i], alsoOf(x, t), also[i]);
        }
        int flow = x.flow(3);
        DUE.is("kind of a flow", x.kind(flow), 4);
        DUE.says("is of a flow", alsoOf(x, flow), "10011");
        DUE.is("is(0, -1)", x.is(0, -1), TableBench.OUTSIDE);
        DUE.is("is(0, 5)", x.is(0, 5), TableBench.OUTSIDE);
        DUE.is("kind(-1)", x.kind(-1), TableBench.UNKNOWN);
        DUE.is("kind(16), the next", x.kind(16), TableBench.UNKNOWN);
    }

    private static String alsoOf(TableBench x, int t) {
        StringBuilder text = new StringBuilder();
        for (int kind = 0; kind < 5; kind++) {
            text.append(x.is(t, kind));
        }
        return text.toString();
    }

    private static void numbers() {
        DUE.part("promises 8 and 10");
        TableBench x = new TableBench();
        DUE.is("size(0) of none", x.size(0), TableBench.UNKNOWN);
        DUE.is("at(0, 9, 9) of none", x.at(0, 9, 9), TableBench.UNKNOWN);
        Make.table(x, "1 -12; -12 3");
        Make.table(x, "1 0 0 0 0 9; 0 2 0 0 0 0; 0 0 3 0 0 0; 0 0 0 4 0 0; 0 0 0 0 5 0; 9 0 0 0 0 6");
        DUE.is("size(0)", x.size(0), 2);
        DUE.is("size(1)", x.size(1), 6);
        DUE.is("size(-1)", x.size(-1), TableBench.UNKNOWN);
        DUE.is("size(2)", x.size(2), TableBench.UNKNOWN);
        DUE.is("at(0, 0, 1), a number as a finding", x.at(0, 0, 1), -12);
        DUE.is("finding() of it", x.finding(), 0);
        DUE.is("at(0, 1, 1)", x.at(0, 1, 1), 3);
        DUE.is("at(1, 5, 0)", x.at(1, 5, 0), 9);
        DUE.is("at(1, 4, 4)", x.at(1, 4, 4), 5);
        int[][] none = {{-1, 0}, {0, -1}, {2, 0}, {0, 2}};
        for (int[] one : none) {
            DUE.is("at(0, " + one[0] + ", " + one[1] + ")", x.at(0, one[0], one[1]), Make.INDEX);
        }
        DUE.is("finding()", x.finding(), 2);
        DUE.is("at(-1, 0, 0)", x.at(-1, 0, 0), TableBench.UNKNOWN);
    }
}
