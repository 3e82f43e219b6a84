/** Promises 28 to 31: bend, signs, show, form. */
public final class FormTest {
    private static final Due DUE = new Due();

    public static void main(String[] args) {
        bent();
        nowhere();
        form();
        DUE.end();
    }

    /** By hand: the numbers d, the rows of the way, the signs, and which row is shown (-1: none). */
    private static void bent() {
        String[][] due = {
            {"2 1; 1 2", "2 6 | 1 0 | -1 2", "200", "-1"},
            {"0 1 1; 1 0 1; 1 1 0", "2 -2 -2 | 1 1 0 | -1 1 0 | -1 -1 1", "102", "1"},
            {"0 2 0; 2 0 0; 0 0 0", "4 -4 0 | 1 1 0 | -1 1 0 | 0 0 1", "111", "1"},
            {"0 0 0; 0 0 2; 0 2 0", "0 4 -4 | 1 0 0 | 0 1 1 | 0 -1 1", "111", "0"},
            {"0 0; 0 5", "5 0 | 0 1 | 1 0", "110", "1"},
            {"0 3; 3 5", "5 -45 | 0 1 | 5 -3", "101", "1"},
            {"-4 6; 6 0", "-4 36 | 1 0 | -3 -2", "101", "0"},
            {"0", "0 | 1", "10", "0"},
            {"-9", "-9 | 1", "1", "0"},
            {"0 0; 0 0", "0 0 | 1 0 | 0 1", "20", "0"},
            // Row 1 becomes -1 2 0, which meets itself in 0, but row 2 in 6: it takes on row 2.
            {"4 2 0; 2 1 3; 0 3 0", "4 12 -12 | 1 0 0 | -1 2 1 | 1 -2 1", "201", "2"},
            // Rows 1 and 2 become -1 1 0 and -1 0 1, both of which meet themselves in 0, and one another in 1.
            {"1 1 1; 1 1 2; 1 2 1", "1 2 -2 | 1 0 0 | -2 1 1 | 0 -1 1", "201", "2"},
        };
        TableBench x = new TableBench();
        for (int t = 0; t < due.length; t++) {
            Make.table(x, due[t][0]);
            String flat = due[t][1].replace("| ", "");
            DUE.part("promise 28");
            DUE.is("bend of " + due[t][0], x.bend(t), flat.split(" ").length);
            DUE.says("its result", Make.result(x), flat);
            DUE.part("promise 29");
            DUE.is("signs of " + due[t][0], x.signs(t), Integer.parseInt(due[t][2]));
            DUE.part("promise 30");
            int row = Integer.parseInt(due[t][3]);
            DUE.is("show of " + due[t][0], x.show(t), row < 0 ? TableBench.NONE : x.size(t));
            DUE.says("its result", Make.result(x), row < 0 ? flat : due[t][1].split(" \\| ")[1 + row]);
        }
    }

    private static void nowhere() {
        DUE.part("promises 28 to 30");
        TableBench x = new TableBench();
        Make.table(x, "1");
        x.bend(0);
        int[] none = {-1, 1, 60, Integer.MIN_VALUE};
        for (int t : none) {
            DUE.is("bend(" + t + ")", x.bend(t), TableBench.UNKNOWN);
            DUE.is("signs(" + t + ")", x.signs(t), TableBench.UNKNOWN);
            DUE.is("show(" + t + ")", x.show(t), TableBench.UNKNOWN);
        }
        DUE.says("the result stays", Make.result(x), "1 1");
    }

    private static void form() {
        DUE.part("promise 31");
        TableBench x = new TableBench();
        DUE.is("form(0, 0) of none", x.form(0, 0), TableBench.UNKNOWN);
        Make.table(x, "2 1; 1 -3");
        x.lose(0);
        x.lose(1);
        DUE.is("form(0, 16)", x.form(0, 16), TableBench.UNKNOWN);
        DUE.is("form(0, -1)", x.form(0, -1), TableBench.UNKNOWN);
        Make.leaf(x, 4, "5");
        DUE.is("form(0, 4), short", x.form(0, 4), Make.INDEX);
        DUE.is("where()", x.where(), 1);
        Make.leaf(x, 4, "101 102");
        DUE.is("form(0, 4), great", x.form(0, 4), Make.GREAT);
        DUE.is("where()", x.where(), 0);
        DUE.is("form(0, 0), lost", x.form(0, 0), Make.NULL);
        x.leaf(4, 3, 2);
        x.put(4, 3, 1, Double.doubleToRawLongBits(0.5));
        DUE.is("form(0, 4), broken", x.form(0, 4), Make.BROKEN);
        DUE.is("where()", x.where(), 1);
        DUE.is("form(0, 0), lost", x.form(0, 0), Make.NULL);
        DUE.is("where() of a lost leaf", x.where(), 0);
        Make.leaf(x, 4, "5 -4 101");
        DUE.is("form(0, 4)", x.form(0, 4), 2);
        // 2 * 25 - 2 * 20 - 3 * 16, and 25 + 16.
        DUE.says("its result", Make.result(x), "-38 41");
        DUE.is("where() stays", x.where(), 0);
        x.leaf(4, 2, 2);
        x.put(4, 2, 0, Float.floatToRawIntBits(-3));
        DUE.is("form(0, 4) of floats", x.form(0, 4), 2);
        DUE.says("its result", Make.result(x), "18 9");
        DUE.is("form(1, 4)", x.form(1, 4), TableBench.UNKNOWN);
        DUE.says("the result stays", Make.result(x), "18 9");
    }
}
