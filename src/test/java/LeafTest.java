/** Promises 2 to 4: leaf, put, lose. */
public final class LeafTest {
    private static final Due DUE = new Due();

    public static void main(String[] args) {
        leaf();
        put();
        noNumbers();
        lose();
        DUE.end();
    }

    private static void leaf() {
        DUE.part("promise 2");
        TableBench x = new TableBench();
        DUE.is("leaf(0, 0, 0)", x.leaf(0, 0, 0), 0);
        DUE.is("leaf(15, 3, 8)", x.leaf(15, 3, 8), 8);
        DUE.is("leaf(-1, 9, -1)", x.leaf(-1, 9, -1), TableBench.UNKNOWN);
        DUE.is("leaf(16, 0, 1)", x.leaf(16, 0, 1), TableBench.UNKNOWN);
        DUE.is("leaf(1, -1, -1)", x.leaf(1, -1, -1), TableBench.OUTSIDE);
        DUE.is("leaf(1, 4, 1)", x.leaf(1, 4, 1), TableBench.OUTSIDE);
        DUE.is("leaf(1, 0, 9)", x.leaf(1, 0, 9), TableBench.OUTSIDE);
        DUE.is("leaf(1, 0, greatest)", x.leaf(1, 0, Integer.MAX_VALUE), TableBench.OUTSIDE);
        DUE.is("leaf(1, 0, -1)", x.leaf(1, 0, -1), Make.SIZE);
        DUE.is("leaf(1, 0, least)", x.leaf(1, 0, Integer.MIN_VALUE), Make.SIZE);
        DUE.is("lose(1) of a leaf that was refused", x.lose(1), Make.NULL);
        Make.leaf(x, 2, "7 7");
        DUE.is("leaf(2, 0, -1)", x.leaf(2, 0, -1), Make.SIZE);
        DUE.is("put(2, 0, 1, 7) after it", x.put(2, 0, 1, 7), 1);
        DUE.is("leaf(2, 0, 2) anew", x.leaf(2, 0, 2), 2);
        DUE.is("table(2, 1) of 0 anew", x.table(2, 1), 0);
        DUE.is("at(0, 0, 0)", x.at(0, 0, 0), 0);
        DUE.is("put(2, 1, 0, 7) of another lane", x.put(2, 1, 0, 7), Make.CAST);
        DUE.is("leaf(2, 1, 3) of another lane", x.leaf(2, 1, 3), 3);
        DUE.is("put(2, 1, 2, 7)", x.put(2, 1, 2, 7), 1);
    }

    private static void put() {
        DUE.part("promise 3");
        TableBench x = new TableBench();
        DUE.is("put(-1, 0, 0, 1)", x.put(-1, 0, 0, 1), TableBench.UNKNOWN);
        DUE.is("put(16, 9, 0, 1)", x.put(16, 9, 0, 1), TableBench.UNKNOWN);
        DUE.is("put(0, -1, 0, 1)", x.put(0, -1, 0, 1), TableBench.OUTSIDE);
        DUE.is("put(0, 4, 0, 1)", x.put(0, 4, 0, 1), TableBench.OUTSIDE);
        DUE.is("put(0, 0, 9, 1) of a lost leaf", x.put(0, 0, 9, 1), Make.NULL);
        x.leaf(0, 0, 2);
        DUE.is("put(0, 1, 9, 1)", x.put(0, 1, 9, 1), Make.CAST);
        DUE.is("put(0, 0, -1, 1)", x.put(0, 0, -1, 1), Make.INDEX);
        DUE.is("put(0, 0, 2, 1)", x.put(0, 0, 2, 1), Make.INDEX);
        DUE.is("put(0, 0, 1, 1)", x.put(0, 0, 1, 1), 1);
        DUE.is("put(0, 0, 0, 2^32 + 5)", x.put(0, 0, 0, (1L << 32) + 5), 1);
        x.table(0, 1);
        DUE.is("at of an int's lowest 32 bits", x.at(0, 0, 0), 5);
        DUE.is("put(0, 0, 0, 2^32 - 5)", x.put(0, 0, 0, (1L << 32) - 5), 1);
        x.table(0, 1);
        DUE.is("at of an int's lowest 32 bits, below 0", x.at(1, 0, 0), -5);
        x.leaf(0, 1, 1);
        DUE.is("put(0, 1, 0, 2^32 + 5)", x.put(0, 1, 0, (1L << 32) + 5), 1);
        DUE.is("table of a great long", x.table(0, 1), Make.GREAT);
        x.leaf(0, 2, 1);
        DUE.is("put of a float under other bits", x.put(0, 2, 0, 7L << 32 | Float.floatToRawIntBits(-3)), 1);
        x.table(0, 1);
        DUE.is("at of a float's lowest 32 bits", x.at(2, 0, 0), -3);
    }

    private static void noNumbers() {
        DUE.part("promise 3, no numbers");
        TableBench x = new TableBench();
        DUE.is("of a lost leaf", x.put(0, 3, 0, Double.doubleToRawLongBits(Double.NaN)), TableBench.OUTSIDE);
        x.leaf(0, 2, 1);
        long[] floats = {0x7fc00000L, 0x7f800001L, 0x7fffffffL, 0xffc00000L, 0xff800001L, -1L};
        for (long word : floats) {
            DUE.is("put(0, 2, 0, " + word + ")", x.put(0, 2, 0, word), TableBench.OUTSIDE);
        }
        DUE.is("put of a float that is endless", x.put(0, 2, 0, 0x7f800000L), 1);
        DUE.is("put of a float that is endless below 0", x.put(0, 2, 0, 0xff800000L), 1);
        DUE.is("put of a double's bits as a float", x.put(0, 2, 0, 0x7ff8000000000000L), 1);
        x.leaf(0, 3, 1);
        long[] doubles = {0x7ff8000000000000L, 0x7ff0000000000001L, 0xfff8000000000000L, 0xfff0000000000001L, -1L};
        for (long word : doubles) {
            DUE.is("put(0, 3, 0, " + word + ")", x.put(0, 3, 0, word), TableBench.OUTSIDE);
        }
        DUE.is("put of a double that is endless", x.put(0, 3, 0, 0x7ff0000000000000L), 1);
        DUE.is("put of a double that is endless below 0", x.put(0, 3, 0, 0xfff0000000000000L), 1);
        DUE.is("put of a float's bits as a double", x.put(0, 3, 0, 0x7fc00000L), 1);
        x.leaf(0, 1, 1);
        DUE.is("put(0, 1, 0, -1)", x.put(0, 1, 0, -1), 1);
    }

    private static void lose() {
        DUE.part("promise 4");
        TableBench x = new TableBench();
        DUE.is("lose(-1)", x.lose(-1), TableBench.UNKNOWN);
        DUE.is("lose(16)", x.lose(16), TableBench.UNKNOWN);
        DUE.is("lose(0)", x.lose(0), Make.NULL);
        x.leaf(0, 0, 0);
        x.leaf(15, 0, 8);
        DUE.is("lose(0) of no numbers", x.lose(0), 0);
        DUE.is("lose(15)", x.lose(15), 8);
        DUE.is("lose(15) again", x.lose(15), Make.NULL);
        DUE.is("put(15, 0, 0, 1) of a lost leaf", x.put(15, 0, 0, 1), Make.NULL);
        Make.table(x, "3");
        x.lose(0);
        DUE.is("at(0, 0, 0) after its leaf is lost", x.at(0, 0, 0), 3);
    }
}
