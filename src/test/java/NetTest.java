/** Promises 32 to 35: walks, pieces, two, trees. */
public final class NetTest {
    private static final Due DUE = new Due();
    // A path of three, a ring of three, a ring of four with one thing alone, two pairs, and all lines of six things.
    private static final String[] NETS = {
        "0 1 0; 1 0 1; 0 1 0", "0 1 1; 1 0 1; 1 1 0",
        "0 1 0 1 0; 1 0 1 0 0; 0 1 0 1 0; 1 0 1 0 0; 0 0 0 0 0", "0 0 1 0; 0 0 0 1; 1 0 0 0; 0 1 0 0",
        "0 1 1 1 1 1; 1 0 1 1 1 1; 1 1 0 1 1 1; 1 1 1 0 1 1; 1 1 1 1 0 1; 1 1 1 1 1 0",
        "0 0 0 0 0 1; 0 0 1 0 0 0; 0 1 0 1 0 0; 0 0 1 0 1 0; 0 0 0 1 0 1; 1 0 0 0 1 0"
    };
    private static final String[] UNFIT = {"0 0; 0 0", "0", "1 1; 1 0", "0 0 2; 0 0 0; 2 0 0", "3"};

    public static void main(String[] args) {
        twoFirst();
        nets();
        unfit();
        DUE.end();
    }

    /** On an object that has told no pieces yet. */
    private static void twoFirst() {
        DUE.part("promise 34, first");
        TableBench x = new TableBench();
        Make.table(x, NETS[0]);
        Make.table(x, NETS[1]);
        DUE.is("two(0)", x.two(0), 1);
        DUE.is("two(1)", x.two(1), 0);
        DUE.is("two(0) again", x.two(0), 1);
    }

    private static void nets() {
        int[] walks = {0, 1, 2, 3, 4, 20};
        String[][] due = {
            {"3", "0", "4", "0", "8", "2048"}, {"3", "0", "6", "6", "18", "1048578"},
            {"5", "0", "8", "0", "32", "2097152"}, {"4", "0", "4", "0", "4", "4"},
            {"6", "0", "30", "120", "630", "95367431640630"}
        };
        int[] pieces = {1, 1, 2, 2, 1, 1};
        int[] two = {1, 0, 1, 1, 0, 1};
        String[] trees = {"1", "3", "0", "0", "1296", "1"};
        TableBench x = new TableBench();
        for (String rows : NETS) {
            Make.table(x, rows);
        }
        for (int t = 0; t < NETS.length; t++) {
            for (int i = 0; t < due.length && i < walks.length; i++) {
                DUE.part("promise 32");
                DUE.is("walks(" + t + ", " + walks[i] + ")", x.walks(t, walks[i]), 1);
                DUE.says("its result", Make.result(x), due[t][i]);
            }
            int flow = x.flow(t);
            DUE.part("promise 33");
            DUE.is("pieces(" + t + ")", x.pieces(t), pieces[t]);
            DUE.is("pieces of its flow", x.pieces(flow), pieces[t]);
            DUE.part("promise 34");
            DUE.is("two(" + t + ")", x.two(t), two[t]);
            DUE.is("two of its flow", x.two(flow), two[t]);
            DUE.part("promise 35");
            DUE.is("trees of its flow", x.trees(flow), 1);
            DUE.says("its result", Make.result(x), trees[t]);
        }
        Make.table(x, "0 1 1 0; 1 0 1 0; 1 1 0 1; 0 0 1 0");
        Make.table(x, "0 1 0 0 1 0; 1 0 1 0 0 0; 0 1 0 1 0 0; 0 0 1 0 1 0; 1 0 0 1 0 0; 0 0 0 0 0 0");
        DUE.is("two of a ring of three with a tail", x.two(12), 0);
        DUE.is("two of a ring of five", x.two(13), 0);
    }

    private static void unfit() {
        DUE.part("promises 32 to 35, unfit");
        TableBench x = new TableBench();
        Make.table(x, NETS[1]);
        x.flow(0);
        x.poly(0);
        String before = Make.result(x);
        DUE.is("walks(0, 21)", x.walks(0, 21), TableBench.OUTSIDE);
        DUE.is("walks(0, -1)", x.walks(0, -1), TableBench.OUTSIDE);
        DUE.is("walks(1, 2) of a flow", x.walks(1, 2), Make.UNFIT);
        DUE.is("walks(1, 21) of a flow", x.walks(1, 21), TableBench.OUTSIDE);
        DUE.is("walks(9, 21)", x.walks(9, 21), TableBench.UNKNOWN);
        DUE.is("trees(0) of a net", x.trees(0), Make.UNFIT);
        DUE.is("trees(9)", x.trees(9), TableBench.UNKNOWN);
        DUE.is("pieces(9)", x.pieces(9), TableBench.UNKNOWN);
        DUE.is("two(-1)", x.two(-1), TableBench.UNKNOWN);
        for (String rows : UNFIT) {
            int t = Make.table(x, rows);
            DUE.is("walks of " + rows, x.walks(t, 2), Make.UNFIT);
            DUE.is("pieces of " + rows, x.pieces(t), Make.UNFIT);
            DUE.is("two of " + rows, x.two(t), Make.UNFIT);
            DUE.is("trees of " + rows, x.trees(t), Make.UNFIT);
        }
        DUE.says("the result stays", Make.result(x), before);
    }
}
