/** Promises 32 to 35, sentence by sentence, at the boundaries that they name. */
public final class NetEdgesTest {
    private static final int UNFIT = Sentence.UNFIT, UNKNOWN = Sentence.UNKNOWN, OUTSIDE = Sentence.OUTSIDE;
    private static final String ALL_LINES =
        "0 1 1 1 1 1; 1 0 1 1 1 1; 1 1 0 1 1 1; 1 1 1 0 1 1; 1 1 1 1 0 1; 1 1 1 1 1 0";
    private static final String ONE_LINE =
        "0 0 0 0 0 1; 0 0 0 0 0 0; 0 0 0 0 0 0; 0 0 0 0 0 0; 0 0 0 0 0 0; 1 0 0 0 0 0";
    private static final String NO_LINES = ONE_LINE.replace("1", "0");
    // No NETs, nearly so: a SLANT of 0 alone, of one thing, BANDs, TABLEs.
    private static final String[] NO_NETS = {"0 0; 0 0", "0", "1", "1 1; 1 0", "0 2; 2 0", "0 -1; -1 0", "1 0; 0 1",
        "0 0 2; 0 0 0; 2 0 0", "0 0 1; 0 0 0; 1 0 1", "1 -1; -1 1"};

    public static void main(String[] args) {
        unknown();
        unfit();
        walksOutside();
        walks();
        pieces();
        two();
        trees();
        meeting();
        Sentence.end();
    }

    private static void unknown() {
        for (String call : new String[] {"walks(?, 2)", "pieces(?)", "two(?)", "trees(?)"}) {
            Sentence one = new Sentence("promises 32 to 35: UNKNOWN, " + call).due(call.replace("?", "0"), UNKNOWN)
                .table("0 1; 1 0").given("flow(0)", "poly(0)");
            for (String t : new String[] {"-1", "2", "59", "60", "least", "most"}) {
                one.due(call.replace("?", t), UNKNOWN);
            }
            one.result("-1 0 1").fill(60).due(call.replace("?", "60"), UNKNOWN);
        }
        new Sentence("promises 32 to 34: the first TABLE and the last").table("0 1; 1 0").fill(60).due("walks(0, 2)", 1)
            .due("walks(59, 2)", 1).result("2").due("pieces(0)", 1).due("pieces(59)", 1).due("two(0)", 1)
            .due("two(59)", 1);
        new Sentence("promise 35: the last TABLE").table("0 1; 1 0").fill(59).given("flow(0)").due("trees(59)", 1)
            .result("1")
            .due("trees(58)", UNFIT);
    }

    private static void unfit() {
        for (String rows : NO_NETS) {
            new Sentence("promises 32 to 35: UNFIT, no NET: " + rows).table(rows).given("poly(0)")
                .each(UNFIT, "walks(0, 0)", "walks(0, 1)", "walks(0, 20)", "pieces(0)", "two(0)", "trees(0)");
        }
        new Sentence("promise 32: UNFIT: a FLOW; promise 35: UNFIT: no FLOW").table("0 1; 1 0")
            .given("flow(0)", "poly(0)")
            .due("walks(1, 2)", UNFIT).due("trees(0)", UNFIT).result("-1 0 1").due("walks(0, 2)", 1).result("2")
            .due("trees(1)", 1).result("1").due("pieces(1)", 1).due("two(1)", 1).given("shift(1, 0)")
            .each(UNFIT, "trees(2)", "pieces(2)", "two(2)", "walks(2, 2)");
        new Sentence("promises 32 to 34: a NET again, when a line is there").table("0 0; 0 0").due("pieces(0)", UNFIT)
            .given("line(0, 0, 1)").due("pieces(1)", 1).due("two(1)", 1).due("walks(1, 2)", 1).result("2")
            .given("line(1, 0, 1)").each(UNFIT, "pieces(2)", "two(2)", "walks(2, 2)", "trees(2)");
    }

    private static void walksOutside() {
        new Sentence("promise 32: OUTSIDE: k is not 0 to 20").table("0 1 1; 1 0 1; 1 1 0").given("poly(0)")
            .each(OUTSIDE, "walks(0, -1)", "walks(0, 21)", "walks(0, least)", "walks(0, most)").result("-2 -3 0 1")
            .due("walks(0, 0)", 1).result("3").due("walks(0, 20)", 1).result("1048578");
    }

    private static void walks() {
        new Sentence("promise 32: how many walks of k lines end where they began, of all lines").table(ALL_LINES)
            .due("walks(0, 0)", 1).result("6").due("walks(0, 1)", 1).result("0").due("walks(0, 2)", 1).result("30")
            .due("walks(0, 3)", 1).result("120").due("walks(0, 19)", 1).result("19073486328120").due("walks(0, 20)", 1)
            .result("95367431640630");
        new Sentence("promise 32: of one line").table(ONE_LINE).due("walks(0, 0)", 1).result("6").due("walks(0, 1)", 1)
            .result("0").due("walks(0, 2)", 1).result("2").due("walks(0, 19)", 1).result("0").due("walks(0, 20)", 1)
            .result("2");
    }

    private static Sentence pieces(Sentence one, int t, int due) {
        return one.due("pieces(" + t + ")", due);
    }

    private static void pieces() {
        // Lines are put in one by one: things 0 and 5, then 1 and 4, and so on.
        Sentence one = new Sentence("promise 33: how many pieces a NET or a FLOW has").table(ONE_LINE)
            .given("line(0, 1, 4)", "line(1, 2, 3)", "line(2, 5, 3)", "line(3, 2, 4)", "line(4, 0, 1)");
        pieces(pieces(pieces(one, 0, 5), 1, 4), 2, 3);
        pieces(pieces(pieces(one, 3, 2), 4, 1), 5, 1);
        one.given("flow(0)", "flow(2)", "flow(4)");
        pieces(pieces(pieces(one, 6, 5), 7, 3), 8, 1);
        for (int i = 0; i < 6; i++) {
            for (int k = 0; k < i; k++) {
                Sentence line = new Sentence("promises 33 and 34: the line " + i + " " + k + " alone").table(NO_LINES)
                    .given("line(0, " + i + ", " + k + ")", "flow(1)");
                pieces(pieces(line, 1, 5), 2, 5).due("two(1)", 1).due("two(2)", 1).due("pieces(0)", UNFIT);
            }
            Sentence alone = new Sentence("promises 33 and 34: thing " + i + " alone").table(ALL_LINES);
            int t = 0;
            for (int k = 0; k < 6; k++) {
                if (k != i) alone.due("line(" + t + ", " + i + ", " + k + ")", ++t);
            }
            pieces(pieces(alone, 5, 2), 4, 1).due("two(5)", 0).due("flow(5)", 6).due("pieces(6)", 2).due("two(6)", 0)
                .due("trees(6)", 1).result("0");
        }
        new Sentence("promise 33: things that hang together by a way against their order").table(
            "0 0 0 0 1 0; 0 0 0 1 0 0; 0 0 0 0 0 1; 0 1 0 0 0 1; 1 0 0 0 0 1; 0 0 1 1 1 0").due("pieces(0)", 1)
            .due("two(0)", 1).table(ALL_LINES).due("pieces(1)", 1).table("0 1; 1 0").due("pieces(2)", 1);
    }

    private static void two() {
        Sentence rings = new Sentence("promise 34: no line being within either: rings of 3 to 6")
            .table("0 1 1; 1 0 1; 1 1 0").table("0 1 0 1; 1 0 1 0; 0 1 0 1; 1 0 1 0")
            .table("0 1 0 0 1; 1 0 1 0 0; 0 1 0 1 0; 0 0 1 0 1; 1 0 0 1 0")
            .table("0 1 0 0 0 1; 1 0 1 0 0 0; 0 1 0 1 0 0; 0 0 1 0 1 0; 0 0 0 1 0 1; 1 0 0 0 1 0")
            .given("flow(0)", "flow(1)", "flow(2)", "flow(3)");
        int[] due = {0, 1, 0, 1};
        for (int t = 0; t < 8; t++) rings.due("two(" + t + ")", due[t % 4]);
        new Sentence("promise 34: every piece")
            .table("0 1 0 0 0 0; 1 0 0 0 0 0; 0 0 0 0 0 0; 0 0 0 0 1 1; 0 0 0 1 0 1; "
            + "0 0 0 1 1 0").due("two(0)", 0).given("line(0, 3, 5)", "line(0, 1, 2)", "line(2, 0, 2)").due("two(1)", 1)
            .due("two(2)", 0).due("two(3)", 0).due("pieces(0)", 3).due("pieces(1)", 3).due("pieces(2)", 2)
            .table(ONE_LINE).due("two(4)", 1).table("0 1; 1 0").due("two(5)", 1).table(ALL_LINES).due("two(6)", 0);
        new Sentence("promise 34: three things with three others, all lines between").table("0 0 0 1 1 1; 0 0 0 1 1 1; "
            + "0 0 0 1 1 1; 1 1 1 0 0 0; 1 1 1 0 0 0; 1 1 1 0 0 0").due("two(0)", 1)
                .given("line(0, 0, 2)", "line(0, 3, 0)")
            .due("two(1)", 0).due("two(2)", 1);
    }

    private static void trees() {
        Sentence one = new Sentence("promise 35: how many ways there are to leave lines so that all things hang together "
            + "without a ring").table("0 1; 1 0").table("0 1 1; 1 0 1; 1 1 0")
                .table("0 1 0 1; 1 0 1 0; 0 1 0 1; 1 0 1 0")
            .table(ALL_LINES).table("0 1 0; 1 0 0; 0 0 0").table("0 1 0 0; 1 0 0 0; 0 0 0 1; 0 0 1 0");
        String[] due = {"1", "3", "4", "1296", "0", "0"};
        for (int t = 0; t < due.length; t++) {
            one.due("flow(" + t + ")", 6 + t).due("trees(" + (6 + t) + ")", 1).result(due[t]);
        }
        new Sentence("promise 35: apart by one line").table("0 1 1 0 0 0; 1 0 1 0 0 0; 1 1 0 1 0 0; 0 0 1 0 1 1; "
            + "0 0 0 1 0 1; 0 0 0 1 1 0").given("flow(0)").due("trees(1)", 1).result("9")
                .given("line(0, 2, 3)", "flow(2)")
            .due("trees(3)", 1).result("0").due("pieces(3)", 2).due("two(3)", 0);
    }

    private static void meeting() {
        new Sentence("promises 32 to 35: the first as told").table("3 1; 1 0").table("0 1; 1 0")
            .given("flow(1)", "poly(0)")
            .each(UNKNOWN, "walks(3, 21)", "walks(-1, -1)", "walks(3, 1)")
            .each(OUTSIDE, "walks(0, 21)", "walks(0, -1)", "walks(2, 21)", "walks(2, -1)", "walks(1, 21)")
            .each(UNFIT, "walks(0, 0)", "walks(2, 20)").fill(60).each(UNKNOWN, "walks(60, 21)", "pieces(60)")
            .due("walks(0, 21)", OUTSIDE).due("walks(0, 1)", UNFIT).due("pieces(0)", UNFIT).due("walks(1, 2)", 1)
            .result("2");
    }
}
