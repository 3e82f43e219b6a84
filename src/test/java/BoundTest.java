/** Promises 18 and 19: bound and its trace. */
public final class BoundTest {
    private static final Due DUE = new Due();

    public static void main(String[] args) {
        DUE.part("promises 18 and 19");
        TableBench x = new TableBench();
        DUE.says("the trace at first", trace(x), "");
        String[] tables = {"1 2 -3; 2 -50 5; -3 5 60", "1 -20 0; -20 5 30; 0 30 -7", "9 0 0; 0 -10 0; 0 0 3",
            "0 1 1; 1 0 0; 1 0 0", "0 0; 0 0", "-100", "-100 -100; -100 3"};
        int[] due = {68, 55, 10, 2, 0, 100, 200};
        String[] traces = {"1", "1", "2", "3 1", "2", "2", "1"};
        for (int i = 0; i < tables.length; i++) {
            int t = Make.table(x, tables[i]);
            DUE.is("bound of " + tables[i], x.bound(t), due[i]);
            DUE.says("trace of " + tables[i], trace(x), traces[i]);
        }
        int flow = x.flow(3);
        DUE.is("bound of a flow", x.bound(flow), 4);
        DUE.says("trace of a flow", trace(x), "4 3 1");
        DUE.is("another call", x.kind(99), TableBench.UNKNOWN);
        DUE.says("trace after it", trace(x), "4 3 1");
        int[] none = {-1, 3, 4, Integer.MAX_VALUE, Integer.MIN_VALUE};
        for (int k : none) {
            DUE.is("trace(" + k + ")", x.trace(k), TableBench.NONE);
        }
        DUE.is("bound(-1)", x.bound(-1), TableBench.UNKNOWN);
        DUE.says("trace after a refused one", trace(x), "");
        DUE.is("bound of a flow again", x.bound(flow), 4);
        DUE.says("trace of it", trace(x), "4 3 1");
        DUE.is("bound(99)", x.bound(99), TableBench.UNKNOWN);
        DUE.says("trace after a refused one", trace(x), "");
        DUE.end();
    }

    private static String trace(TableBench x) {
        StringBuilder text = new StringBuilder();
        for (int k = 0; x.trace(k) != TableBench.NONE; k++) {
            text.append(k == 0 ? "" : " ").append(x.trace(k));
        }
        return text.toString();
    }
}
