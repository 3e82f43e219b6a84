/** Promises 18 and 19 and the terms on BOUND, sentence by sentence, at the boundaries that they name. */
public final class BoundEdgesTest {
    private static final int UNKNOWN = Sentence.UNKNOWN, OUTSIDE = Sentence.OUTSIDE;

    public static void main(String[] args) {
        bodies();
        numbers();
        unknown();
        emptied();
        trace();
        Sentence.end();
    }

    private static void bound(Sentence one, int t, int due, int... trace) {
        one.due("bound(" + t + ")", due);
        for (int k = 0; k < trace.length; k++) one.number("trace(" + k + ")", trace[k]);
        one.number("trace(" + trace.length + ")", -1).number("trace(-1)", -1);
    }

    private static void bodies() {
        Sentence one = new Sentence("terms 3: by BODIES, each of which writes its number behind THE TRACE")
            .table("0 1 1; 1 0 0; 1 0 0").table("1 2 3; 2 4 5; 3 5 6").table("3 0; 0 -4").table("1 2; 2 1").table("0")
            .given("flow(0)");
        bound(one, 0, 2, 3, 1);
        bound(one, 1, 14, 1);
        bound(one, 2, 4, 2);
        bound(one, 3, 3, 1);
        bound(one, 4, 0, 2);
        bound(one, 5, 4, 4, 3, 1);
        bound(one, 2, 4, 2);
        bound(one, 5, 4, 4, 3, 1);
        bound(one, 0, 2, 3, 1);
    }

    private static void numbers() {
        Sentence one = new Sentence("terms 3: the greatest sum of the sizes of a row's numbers")
            .table("0 9 0 0; 9 -3 1 0; 0 1 0 2; 0 0 2 -12").table("-100 -100 -100 -100 -100 -100; "
                + "-100 -100 -100 -100 -100 -100; -100 -100 -100 -100 -100 -100; -100 -100 -100 -100 -100 -100; "
                + "-100 -100 -100 -100 -100 -100; -100 -100 -100 -100 -100 -100").table("5 -5; -5 5")
                    .table("20 -1 3; -1 0 0; 3 0 0")
            .table("0 0 3; 0 0 -1; 3 -1 20");
        bound(one, 0, 14, 1);
        bound(one, 1, 600, 1);
        bound(one, 2, 10, 1);
        bound(one, 3, 24, 1);
        bound(one, 4, 24, 1);
        Sentence slant = new Sentence("terms 3: SLANT: the greatest size of a number where i is k")
            .table("99 0; 0 -100")
            .table("-1").table("1 0 0; 0 -7 0; 0 0 3").table("0 0; 0 0");
        bound(slant, 0, 100, 2);
        bound(slant, 1, 1, 2);
        bound(slant, 2, 7, 2);
        bound(slant, 3, 0, 2);
        Sentence flow = new Sentence("terms 3: FLOW, of itself")
            .table("0 1 1 1 1 1; 1 0 1 1 1 1; 1 1 0 1 1 1; 1 1 1 0 1 1; 1 1 1 1 0 1; 1 1 1 1 1 0").given("flow(0)");
        bound(flow, 0, 5, 3, 1);
        bound(flow, 1, 10, 4, 3, 1);
    }

    private static void unknown() {
        new Sentence("promise 18: UNKNOWN").due("bound(0)", UNKNOWN).table("5").table("6")
            .each(UNKNOWN, "bound(-1)", "bound(2)", "bound(60)", "bound(least)", "bound(most)").due("bound(0)", 5)
            .due("bound(1)", 6).due("bound(2)", UNKNOWN).fill(60).due("bound(59)", 5).due("bound(60)", UNKNOWN);
    }

    private static void emptied() {
        new Sentence("terms 3: THE TRACE is emptied by each bound(), by a refused one, too").table("0 1; 1 0")
            .table("9")
            .given("flow(0)").due("bound(2)", 2).number("trace(2)", 1).due("bound(-1)", UNKNOWN).number("trace(0)", -1)
            .number("trace(1)", -1).number("trace(2)", -1).due("bound(3)", UNKNOWN).due("bound(2)", 2)
            .number("trace(0)", 4).number("trace(1)", 3).number("trace(2)", 1).due("bound(1)", 9).number("trace(0)", 2)
            .number("trace(1)", -1).number("trace(2)", -1);
        new Sentence("terms 4: no other refusal, and no finding, changes THE TRACE").table("0 1; 1 0").given("flow(0)")
            .due("bound(1)", 2).each(UNKNOWN, "kind(9)", "flow(9)", "poly(9)").each(OUTSIDE, "walks(0, 21)", "is(0, 5)")
            .due("flow(1)", Sentence.UNFIT).due("at(0, 2, 0)", Sentence.INDEX).found("table(5, 1)", Sentence.NULL, 0)
            .number("trace(0)", 4).number("trace(1)", 3).number("trace(2)", 1).number("trace(3)", -1);
    }

    private static void trace() {
        new Sentence("promise 19: NONE").number("trace(0)", -1).number("trace(-1)", -1).table("0 1; 1 0")
            .given("flow(0)")
            .number("trace(0)", -1).due("bound(1)", 2).number("trace(2)", 1).number("trace(3)", -1)
            .number("trace(4)", -1)
            .number("trace(-1)", -1).number("trace(least)", -1).number("trace(most)", -1).number("trace(0)", 4);
    }
}
