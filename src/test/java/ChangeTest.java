/** Promises 11 to 17: flow, turn, mix, shift, drop, weave, line. */
public final class ChangeTest {
    private static final Due DUE = new Due();
    private static final int LEAST = Integer.MIN_VALUE, MOST = Integer.MAX_VALUE;

    public static void main(String[] args) {
        flow();
        turn();
        mix();
        shift();
        drop();
        weave();
        line();
        full();
        DUE.end();
    }

    private static void made(String call, TableBench x, int t, int kind, String rows) {
        DUE.is(call, t, x.about(0) - 1);
        DUE.is("kind after " + call, x.kind(t), kind);
        DUE.says("rows after " + call, Make.told(x, t), rows);
    }

    private static void flow() {
        DUE.part("promise 11");
        TableBench x = new TableBench();
        DUE.is("flow(0) of none", x.flow(0), TableBench.UNKNOWN);
        Make.table(x, "0 1 1 0; 1 0 0 0; 1 0 0 0; 0 0 0 0");
        made("flow(0)", x, x.flow(0), 4, "2 -1 -1 0; -1 1 0 0; -1 0 1 0; 0 0 0 0");
        DUE.is("flow(1) of a flow", x.flow(1), Make.UNFIT);
        Make.table(x, "0 0; 0 0");
        DUE.is("flow(2) of a slant", x.flow(2), Make.UNFIT);
        Make.table(x, "1 1; 1 0");
        DUE.is("flow(3) of a band", x.flow(3), Make.UNFIT);
        DUE.is("flow(-1)", x.flow(-1), TableBench.UNKNOWN);
        made("turn(1, 0, 1)", x, x.turn(1, 0, 1), 2, "1 -1 0 0; -1 2 -1 0; 0 -1 1 0; 0 0 0 0");
        DUE.is("flow(4), no longer a flow", x.flow(4), Make.UNFIT);
    }

    private static void turn() {
        DUE.part("promise 12");
        TableBench x = new TableBench();
        DUE.is("turn(0, 9, 9) of none", x.turn(0, 9, 9), TableBench.UNKNOWN);
        Make.table(x, "1 2 3; 2 4 5; 3 5 6");
        made("turn(0, 0, 2)", x, x.turn(0, 0, 2), 0, "6 5 3; 5 4 2; 3 2 1");
        made("turn(0, 1, 0)", x, x.turn(0, 1, 0), 0, "4 2 5; 2 1 3; 5 3 6");
        made("turn(0, 1, 1)", x, x.turn(0, 1, 1), 0, "1 2 3; 2 4 5; 3 5 6");
        DUE.says("rows of 0", Make.told(x, 0), "1 2 3; 2 4 5; 3 5 6");
        int[][] none = {{-1, 0}, {0, -1}, {3, 0}, {0, 3}, {LEAST, MOST}};
        for (int[] one : none) {
            DUE.is("turn(0, " + one[0] + ", " + one[1] + ")", x.turn(0, one[0], one[1]), Make.INDEX);
        }
        Make.table(x, "0 0 1; 0 0 0; 1 0 5");
        made("turn(4, 0, 1)", x, x.turn(4, 0, 1), 2, "0 0 0; 0 0 1; 0 1 5");
    }

    private static void mix() {
        DUE.part("promise 13");
        TableBench x = new TableBench();
        DUE.is("mix(0, 1, 1, 99) of none", x.mix(0, 1, 1, 99), TableBench.UNKNOWN);
        Make.table(x, "1 2 3; 2 4 5; 3 5 6");
        // Row 0 becomes 5 10 13, then column 0 becomes 5 + 20, 10, 13.
        made("mix(0, 0, 1, 2)", x, x.mix(0, 0, 1, 2), 0, "25 10 13; 10 4 5; 13 5 6");
        made("mix(0, 2, 0, -3)", x, x.mix(0, 2, 0, -3), 2, "1 2 0; 2 4 -1; 0 -1 -3");
        made("mix(0, 0, 1, 0)", x, x.mix(0, 0, 1, 0), 0, "1 2 3; 2 4 5; 3 5 6");
        DUE.is("mix(0, 0, 1, 11)", x.mix(0, 0, 1, 11), TableBench.OUTSIDE);
        DUE.is("mix(0, 0, 1, -11)", x.mix(0, 0, 1, -11), TableBench.OUTSIDE);
        DUE.is("mix(0, 0, 1, least)", x.mix(0, 0, 1, LEAST), TableBench.OUTSIDE);
        DUE.is("mix(0, 1, 1, 1)", x.mix(0, 1, 1, 1), TableBench.OUTSIDE);
        DUE.is("mix(0, 9, 9, 1)", x.mix(0, 9, 9, 1), TableBench.OUTSIDE);
        DUE.is("mix(0, 3, 0, 1)", x.mix(0, 3, 0, 1), Make.INDEX);
        DUE.is("mix(0, 0, 3, 1)", x.mix(0, 0, 3, 1), Make.INDEX);
        DUE.is("mix(0, -1, 0, 1)", x.mix(0, -1, 0, 1), Make.INDEX);
        DUE.is("mix(0, 0, -1, 10)", x.mix(0, 0, -1, 10), Make.INDEX);
        DUE.is("mix(0, 0, 1, 10)", x.mix(0, 0, 1, 10), Make.GREAT);
        Make.table(x, "0 0; 0 1");
        made("mix(4, 0, 1, 10), just 100", x, x.mix(4, 0, 1, 10), 2, "100 10; 10 1");
        made("mix(4, 0, 1, -10), just 100", x, x.mix(4, 0, 1, -10), 2, "100 -10; -10 1");
        Make.table(x, "1 0; 0 1");
        DUE.is("mix(7, 0, 1, 10), 101", x.mix(7, 0, 1, 10), Make.GREAT);
        Make.table(x, "0 50; 50 -10");
        // On the way the number at (0, 0) is 500; then 500 + 10 (50 - 100) is 0.
        made("mix(8, 0, 1, 10)", x, x.mix(8, 0, 1, 10), 2, "0 -50; -50 -10");
        Make.table(x, "-90 30; 30 50");
        // The number at (0, 0) is not too great: -90 + 60 + 60 + 200; that at (0, 1) is: 30 + 100.
        DUE.is("mix(10, 0, 1, 2)", x.mix(10, 0, 1, 2), Make.GREAT);
    }

    private static void shift() {
        DUE.part("promise 14");
        TableBench x = new TableBench();
        DUE.is("shift(0, 999) of none", x.shift(0, 999), TableBench.UNKNOWN);
        Make.table(x, "100 1; 1 100");
        made("shift(0, -200)", x, x.shift(0, -200), 2, "-100 1; 1 -100");
        made("shift(1, 200)", x, x.shift(1, 200), 2, "100 1; 1 100");
        made("shift(0, -100)", x, x.shift(0, -100), 3, "0 1; 1 0");
        made("shift(0, 0)", x, x.shift(0, 0), 2, "100 1; 1 100");
        DUE.is("shift(0, 1)", x.shift(0, 1), Make.GREAT);
        DUE.is("shift(1, -1)", x.shift(1, -1), Make.GREAT);
        DUE.is("shift(0, 201)", x.shift(0, 201), TableBench.OUTSIDE);
        DUE.is("shift(0, -201)", x.shift(0, -201), TableBench.OUTSIDE);
        DUE.is("shift(0, least)", x.shift(0, LEAST), TableBench.OUTSIDE);
        Make.table(x, "0 0; 0 100");
        DUE.is("shift(5, 1), the last one too great", x.shift(5, 1), Make.GREAT);
    }

    private static void drop() {
        DUE.part("promise 15");
        TableBench x = new TableBench();
        DUE.is("drop(0, 9) of none", x.drop(0, 9), TableBench.UNKNOWN);
        Make.table(x, "1 2 3; 2 4 5; 3 5 6");
        made("drop(0, 0)", x, x.drop(0, 0), 2, "4 5; 5 6");
        made("drop(0, 1)", x, x.drop(0, 1), 2, "1 3; 3 6");
        made("drop(0, 2)", x, x.drop(0, 2), 2, "1 2; 2 4");
        made("drop(3, 0)", x, x.drop(3, 0), 1, "4");
        DUE.is("drop(4, 0) of one", x.drop(4, 0), TableBench.STATE);
        DUE.is("drop(4, 9) of one", x.drop(4, 9), TableBench.STATE);
        DUE.is("drop(0, 3)", x.drop(0, 3), Make.INDEX);
        DUE.is("drop(0, -1)", x.drop(0, -1), Make.INDEX);
    }

    private static void weave() {
        DUE.part("promise 16");
        TableBench x = new TableBench();
        DUE.is("weave(0, 0) of none", x.weave(0, 0), TableBench.UNKNOWN);
        Make.table(x, "0 1; 1 0");
        Make.table(x, "5");
        made("weave(0, 1)", x, x.weave(0, 1), 2, "0 1 0; 1 0 0; 0 0 5");
        made("weave(1, 0)", x, x.weave(1, 0), 2, "5 0 0; 0 0 1; 0 1 0");
        made("weave(0, 0)", x, x.weave(0, 0), 3, "0 1 0 0; 1 0 0 0; 0 0 0 1; 0 0 1 0");
        DUE.is("weave(4, 0), 6", x.weave(4, 0), 5);
        DUE.is("weave(5, 1), 7", x.weave(5, 1), TableBench.OUTSIDE);
        DUE.is("weave(4, 2), 7", x.weave(4, 2), TableBench.OUTSIDE);
        DUE.is("weave(5, 99)", x.weave(5, 99), TableBench.UNKNOWN);
        DUE.is("weave(-1, 5)", x.weave(-1, 5), TableBench.UNKNOWN);
        x.flow(0);
        made("weave(6, 0), of a flow", x, x.weave(6, 0), 2, "1 -1 0 0; -1 1 0 0; 0 0 0 1; 0 0 1 0");
    }

    private static void line() {
        DUE.part("promise 17");
        TableBench x = new TableBench();
        DUE.is("line(0, 1, 1) of none", x.line(0, 1, 1), TableBench.UNKNOWN);
        Make.table(x, "0 0 0; 0 0 0; 0 0 0");
        made("line(0, 0, 2)", x, x.line(0, 0, 2), 3, "0 0 1; 0 0 0; 1 0 0");
        made("line(1, 1, 0)", x, x.line(1, 1, 0), 3, "0 1 1; 1 0 0; 1 0 0");
        made("line(2, 2, 0)", x, x.line(2, 2, 0), 3, "0 1 0; 1 0 0; 0 0 0");
        made("line(1, 0, 2)", x, x.line(1, 0, 2), 1, "0 0 0; 0 0 0; 0 0 0");
        DUE.is("line(0, 1, 1)", x.line(0, 1, 1), TableBench.OUTSIDE);
        DUE.is("line(0, 9, 9)", x.line(0, 9, 9), TableBench.OUTSIDE);
        DUE.is("line(0, 3, 0)", x.line(0, 3, 0), Make.INDEX);
        DUE.is("line(1, 0, -1)", x.line(1, 0, -1), Make.INDEX);
        x.flow(1);
        DUE.is("line(5, 0, 9) of a flow", x.line(5, 0, 9), Make.UNFIT);
        Make.table(x, "0 0; 0 1");
        DUE.is("line(6, 0, 1) of a slant not of 0 alone", x.line(6, 0, 1), Make.UNFIT);
        Make.table(x, "1 1; 1 0");
        DUE.is("line(7, 0, 1) of a band", x.line(7, 0, 1), Make.UNFIT);
        Make.table(x, "0");
        DUE.is("line(8, 0, 1) of one thing", x.line(8, 0, 1), Make.INDEX);
    }

    private static void full() {
        DUE.part("promises 11 to 17, full");
        TableBench x = new TableBench();
        Make.table(x, "0 1; 1 0");
        Make.table(x, "7");
        while (x.about(0) < 59) {
            x.shift(0, 0);
        }
        DUE.is("turn(0, 0, 1), the last", x.turn(0, 0, 1), 59);
        int[] due = {x.flow(0), x.flow(1), x.turn(0, 0, 1), x.turn(0, 9, 0), x.mix(0, 0, 1, 1), x.mix(0, 0, 9, 1),
            x.mix(0, 0, 1, 10), x.shift(0, 1), x.shift(0, 200), x.drop(0, 0), x.drop(0, 9), x.weave(0, 0),
            x.line(0, 0, 1), x.line(0, 0, 9), x.line(1, 0, 1)};
        for (int i = 0; i < due.length; i++) {
            DUE.is("call " + i + " when full", due[i], TableBench.FULL);
        }
        DUE.is("mix(0, 1, 1, 1) when full", x.mix(0, 1, 1, 1), TableBench.OUTSIDE);
        DUE.is("mix(0, 0, 1, 11) when full", x.mix(0, 0, 1, 11), TableBench.OUTSIDE);
        DUE.is("shift(0, 201) when full", x.shift(0, 201), TableBench.OUTSIDE);
        DUE.is("drop(1, 0) when full", x.drop(1, 0), TableBench.STATE);
        DUE.is("line(1, 0, 0) when full", x.line(1, 0, 0), TableBench.OUTSIDE);
        DUE.is("weave(0, 60) when full", x.weave(0, 60), TableBench.UNKNOWN);
        DUE.is("flow(60) when full", x.flow(60), TableBench.UNKNOWN);
        DUE.is("turn(60, 0, 0) when full", x.turn(60, 0, 0), TableBench.UNKNOWN);
        DUE.is("about(0)", x.about(0), 60);
        DUE.is("finding()", x.finding(), 0);
    }
}
