/** Promises 11 to 17, sentence by sentence, at the boundaries that they name. */
public final class ChangeEdgesTest {
    private static final int INDEX = Sentence.INDEX, GREAT = Sentence.GREAT, UNEVEN = Sentence.UNEVEN;
    private static final int UNFIT = Sentence.UNFIT;
    private static final int UNKNOWN = Sentence.UNKNOWN, OUTSIDE = Sentence.OUTSIDE, STATE = Sentence.STATE;
    private static final int FULL = Sentence.FULL;
    private static final int TABLE = 0, SLANT = 1, BAND = 2, NET = 3, FLOW = 4;

    public static void main(String[] args) {
        unknown();
        full();
        flow();
        turn();
        mix();
        mixGreat();
        shift();
        drop();
        weave();
        line();
        Sentence.end();
    }

    /** Each call with ? where the TABLE stands; with table 0 it makes a table. */
    private static final String[] CALLS = {"flow(?)", "turn(?, 0, 1)", "mix(?, 0, 1, 0)", "shift(?, 0)", "drop(?, 0)",
        "weave(?, 0)", "weave(0, ?)", "line(?, 0, 1)"};

    private static void unknown() {
        for (String call : CALLS) {
            Sentence one = new Sentence("promises 11 to 17: UNKNOWN, " + call).due(call.replace("?", "0"), UNKNOWN)
                .table("0 1; 1 0");
            for (String t : new String[] {"-1", "1", "59", "60", "least", "most"}) {
                one.due(call.replace("?", t), UNKNOWN);
            }
            one.due(call.replace("?", "0"), 1).due(call.replace("?", "2"), UNKNOWN);
        }
        new Sentence("promise 16: UNKNOWN, both").table("4").each(UNKNOWN, "weave(1, 1)", "weave(-1, -1)",
            "weave(-1, 0)", "weave(0, -1)", "weave(least, most)");
    }

    private static void full() {
        for (String call : CALLS) {
            new Sentence("terms 1: 60 TABLES at most; promises 11 to 17: FULL, " + call).table("0 1; 1 0").fill(59)
                .due(call.replace("?", "0"), 59).number("about(0)", 60).due(call.replace("?", "0"), FULL)
                .number("about(0)", 60).due(call.replace("?", "60"), UNKNOWN).due(call.replace("?", "-1"), UNKNOWN);
        }
    }

    private static Sentence made(Sentence one, String call, int t, int kind, String rows) {
        return one.due(call, t).number("kind(" + t + ")", kind).rows(t, rows);
    }

    private static void flow() {
        Sentence lines = new Sentence("promise 11: how many lines thing i has, else less the lines")
            .table("0 1 1 1 1 1; 1 0 0 0 0 0; 1 0 0 0 0 0; 1 0 0 0 0 0; 1 0 0 0 0 0; 1 0 0 0 0 0")
            .table("0 0 1; 0 0 0; 1 0 0");
        made(lines, "flow(0)", 2, FLOW,
            "5 -1 -1 -1 -1 -1; -1 1 0 0 0 0; -1 0 1 0 0 0; -1 0 0 1 0 0; -1 0 0 0 1 0; -1 0 0 0 0 1");
        made(lines, "flow(1)", 3, FLOW, "1 0 -1; 0 0 0; -1 0 1").rows(1, "0 0 1; 0 0 0; 1 0 0").number("kind(1)", NET);
        new Sentence("promise 11: UNFIT: it is no NET, or it is a FLOW").table("0 1; 1 0").table("0 2 1; 2 0 0; 1 0 0")
            .table("0 0; 0 0").table("0").table("1 1; 1 0").table("0 -1; -1 0").given("flow(0)")
            .each(UNFIT, "flow(1)", "flow(2)", "flow(3)", "flow(4)", "flow(5)", "flow(6)").due("flow(0)", 7)
            .due("flow(7)", UNFIT);
        new Sentence("promise 11: the first as told").table("3 1; 1 0").table("0 1; 1 0").given("flow(1)").fill(60)
            .each(UNKNOWN, "flow(60)", "flow(-1)").each(FULL, "flow(0)", "flow(1)", "flow(2)");
    }

    private static void turn() {
        Sentence places = new Sentence("promise 12: INDEX").table("1 2 3; 2 4 5; 3 5 6")
            .each(INDEX, "turn(0, -1, 0)", "turn(0, 0, -1)", "turn(0, 3, 0)", "turn(0, 0, 3)", "turn(0, 3, 3)",
                "turn(0, -1, -1)", "turn(0, least, most)", "turn(0, most, 1)", "turn(0, 1, least)", "turn(0, 6, 0)");
        made(places, "turn(0, 0, 2)", 1, TABLE, "6 5 3; 5 4 2; 3 2 1");
        made(places, "turn(0, 2, 0)", 2, TABLE, "6 5 3; 5 4 2; 3 2 1");
        made(places, "turn(0, 1, 2)", 3, TABLE, "1 3 2; 3 6 5; 2 5 4");
        made(places, "turn(0, 2, 2)", 4, TABLE, "1 2 3; 2 4 5; 3 5 6").rows(0, "1 2 3; 2 4 5; 3 5 6");
        made(new Sentence("promise 12: of one number").table("7")
            .due("turn(0, 0, 1)", INDEX), "turn(0, 0, 0)", 1, SLANT,
            "7");
        new Sentence("promise 12: the first as told").table("3 1; 1 0")
            .each(UNKNOWN, "turn(1, 2, 0)", "turn(-1, 0, -1)")
            .fill(60).each(UNKNOWN, "turn(60, 2, 0)", "turn(60, 0, 0)")
            .each(FULL, "turn(0, 2, 0)", "turn(0, 0, -1)", "turn(0, 0, 1)");
    }

    private static void mix() {
        Sentence factors = new Sentence("promise 13: OUTSIDE: f is not -10 to 10").table("0 0; 0 1")
            .each(OUTSIDE, "mix(0, 0, 1, 11)", "mix(0, 0, 1, -11)", "mix(0, 0, 1, least)", "mix(0, 0, 1, most)",
                "mix(0, 1, 0, 11)", "mix(0, 1, 0, -11)");
        made(factors, "mix(0, 0, 1, 10)", 1, BAND, "100 10; 10 1");
        made(factors, "mix(0, 0, 1, -10)", 2, BAND, "100 -10; -10 1");
        made(factors, "mix(0, 1, 0, 10)", 3, SLANT, "0 0; 0 1");
        made(factors, "mix(0, 0, 1, 0)", 4, SLANT, "0 0; 0 1").rows(0, "0 0; 0 1");
        made(new Sentence("promise 13: OUTSIDE: i is k").table("1 2; 2 0").each(OUTSIDE, "mix(0, 0, 0, 1)",
            "mix(0, 1, 1, 1)", "mix(0, 0, 0, 0)", "mix(0, 2, 2, 1)", "mix(0, -1, -1, 1)", "mix(0, least, least, 0)"),
            "mix(0, 1, 0, 1)", 1, BAND, "1 3; 3 5");
        made(new Sentence("promise 13: INDEX").table("1 0 0; 0 1 0; 0 0 1")
            .each(INDEX, "mix(0, -1, 0, 1)", "mix(0, 0, -1, 1)", "mix(0, 3, 0, 1)", "mix(0, 0, 3, 1)",
                "mix(0, least, 2, 0)", "mix(0, 2, most, 10)", "mix(0, 3, 4, 1)", "mix(0, 2, 5, 0)"),
            "mix(0, 0, 2, 3)", 1, TABLE, "10 0 3; 0 1 0; 3 0 1").due("mix(0, 2, 0, 1)", 2);
        new Sentence("promise 13: of one number").table("7").due("mix(0, 0, 1, 1)", INDEX)
            .due("mix(0, 0, 0, 1)", OUTSIDE);
        new Sentence("promise 13: the first as told").table("3 9; 9 90")
            .each(UNKNOWN, "mix(1, 0, 1, 11)", "mix(-1, 0, 0, 1)", "mix(1, 2, 0, 1)", "mix(1, 0, 1, 10)")
            .each(OUTSIDE, "mix(0, 2, 2, 1)", "mix(0, 2, 0, 11)", "mix(0, 0, 0, 11)", "mix(0, 0, -1, -11)",
                "mix(0, 0, 1, 11)", "mix(0, 1, 1, 10)")
            .each(INDEX, "mix(0, 2, 1, 10)", "mix(0, 0, 2, 10)").due("mix(0, 0, 1, 10)", GREAT).fill(60)
            .each(UNKNOWN, "mix(60, 0, 1, 11)", "mix(60, 0, 0, 1)", "mix(60, 0, 1, 1)")
            .each(OUTSIDE, "mix(0, 0, 0, 1)", "mix(0, 2, 2, 1)", "mix(0, 0, 1, 11)", "mix(0, 0, 1, -11)")
            .each(FULL, "mix(0, 0, 1, 10)", "mix(0, 2, 1, 1)", "mix(0, 0, 2, 1)", "mix(0, 0, 1, 0)");
    }

    private static void mixGreat() {
        Sentence row = new Sentence("promise 13: GREAT, a number where i is not k").table("0 0 0; 0 0 10; 0 10 0")
            .table("0 1 0; 1 0 10; 0 10 0").table("0 0 -1; 0 0 0; -1 0 10").table("0 0 1; 0 0 0; 1 0 -10");
        made(row, "mix(0, 0, 1, 10)", 4, TABLE, "0 0 100; 0 0 10; 100 10 0");
        made(row, "mix(1, 0, 1, 10)", 5, TABLE, "20 1 100; 1 0 10; 100 10 0");
        made(row, "mix(1, 0, 1, -10)", 6, TABLE, "-20 1 -100; 1 0 10; -100 10 0");
        row.due("mix(2, 0, 2, 10)", GREAT).due("mix(3, 0, 2, 10)", GREAT);
        Sentence edge = new Sentence("promise 13: GREAT, 100 and 101 where i is not k").table("0 0 1; 0 0 10; 1 10 0")
            .table("0 0 -1; 0 0 -10; -1 -10 0").table("0 0 0; 0 0 -10; 0 -10 0");
        edge.due("mix(0, 0, 1, 10)", GREAT).due("mix(1, 0, 1, 10)", GREAT);
        made(edge, "mix(0, 0, 1, -10)", 3, TABLE, "0 0 -99; 0 0 10; -99 10 0");
        made(edge, "mix(2, 0, 1, 10)", 4, TABLE, "0 0 -100; 0 0 -10; -100 -10 0");
        Sentence same = new Sentence("promise 13: GREAT, 100 and 101 where i is k").table("0 0; 0 1").table("1 0; 0 1")
            .table("0 0; 0 -1").table("-1 0; 0 -1").table("0 5; 5 0").table("1 5; 5 0");
        made(same, "mix(0, 0, 1, 10)", 6, BAND, "100 10; 10 1").due("mix(1, 0, 1, 10)", GREAT);
        made(same, "mix(2, 0, 1, 10)", 7, BAND, "-100 -10; -10 -1").due("mix(3, 0, 1, -10)", GREAT);
        made(same, "mix(4, 0, 1, 10)", 8, BAND, "100 5; 5 0").due("mix(5, 0, 1, 10)", GREAT);
        made(same, "mix(5, 0, 1, -10)", 9, BAND, "-99 5; 5 0").due("mix(5, 1, 0, 5)", 10).rows(10, "1 10; 10 75");
        made(new Sentence("promise 13: GREAT, of the new TABLE alone")
            .table("0 50; 50 -10"), "mix(0, 0, 1, 10)", 1, BAND,
            "0 -50; -50 -10");
    }

    private static void shift() {
        Sentence most = new Sentence("promise 14: OUTSIDE: x is not -200 to 200").table("100 1; 1 100").table("-100")
            .each(OUTSIDE, "shift(0, -201)", "shift(0, 201)", "shift(1, 201)", "shift(1, -201)", "shift(0, least)",
                "shift(0, most)");
        made(most, "shift(0, -200)", 2, BAND, "-100 1; 1 -100");
        made(most, "shift(1, 200)", 3, SLANT, "100");
        made(most, "shift(0, -100)", 4, NET, "0 1; 1 0").rows(0, "100 1; 1 100");
        Sentence great = new Sentence("promise 14: GREAT").table("99 1 0; 1 -99 0; 0 0 3").table("0 0; 0 100")
            .table("-100 0; 0 0")
            .each(GREAT, "shift(0, 2)", "shift(0, -2)", "shift(1, 1)", "shift(2, -1)", "shift(0, 200)",
                "shift(0, -200)", "shift(1, 200)");
        made(great, "shift(0, 1)", 3, BAND, "100 1 0; 1 -98 0; 0 0 4");
        made(great, "shift(0, -1)", 4, BAND, "98 1 0; 1 -100 0; 0 0 2");
        made(great, "shift(1, -100)", 5, SLANT, "-100 0; 0 0");
        made(great, "shift(2, 100)", 6, SLANT, "0 0; 0 100");
        made(great, "shift(1, 0)", 7, SLANT, "0 0; 0 100");
        new Sentence("promise 14: the first as told").table("100 1; 1 0").each(UNKNOWN, "shift(1, 201)", "shift(-1, 1)")
            .due("shift(0, 201)", OUTSIDE).due("shift(0, 1)", GREAT).fill(60).due("shift(60, 201)", UNKNOWN)
            .each(OUTSIDE, "shift(0, 201)", "shift(0, -201)").each(FULL, "shift(0, 1)", "shift(0, 200)", "shift(0, 0)");
    }

    private static void drop() {
        Sentence one = new Sentence("promise 15: STATE: its SIZE is 1").table("7").table("1 2; 2 4")
            .each(STATE, "drop(0, 0)", "drop(0, 1)", "drop(0, -1)", "drop(0, least)", "drop(0, most)");
        made(one, "drop(1, 0)", 2, SLANT, "4");
        made(one, "drop(1, 1)", 3, SLANT, "1").due("drop(3, 0)", STATE).due("drop(2, 0)", STATE);
        Sentence places = new Sentence("promise 15: INDEX")
            .table("1 2 3 4 5 6; 2 7 8 9 10 11; 3 8 12 13 14 15; 4 9 13 16 17 18; 5 10 14 17 19 20; 6 11 15 18 20 21")
            .table("0 0 1; 0 0 0; 1 0 0")
            .each(INDEX, "drop(0, -1)", "drop(0, 6)", "drop(0, least)", "drop(0, most)", "drop(1, 3)", "drop(1, 5)");
        made(places, "drop(0, 0)", 2, TABLE,
            "7 8 9 10 11; 8 12 13 14 15; 9 13 16 17 18; 10 14 17 19 20; 11 15 18 20 21");
        made(places, "drop(0, 5)", 3, TABLE, "1 2 3 4 5; 2 7 8 9 10; 3 8 12 13 14; 4 9 13 16 17; 5 10 14 17 19");
        made(places, "drop(1, 1)", 4, NET, "0 1; 1 0");
        made(places, "drop(1, 2)", 5, SLANT, "0 0; 0 0");
        new Sentence("promise 15: the first as told").table("7").table("1 2; 2 4")
            .each(UNKNOWN, "drop(2, 0)", "drop(2, 9)", "drop(-1, -1)").fill(60)
            .each(UNKNOWN, "drop(60, 0)", "drop(60, 9)").each(STATE, "drop(0, 0)", "drop(0, 1)")
            .each(FULL, "drop(1, 0)", "drop(1, 2)", "drop(1, -1)");
    }

    private static void weave() {
        Sentence sizes = new Sentence("promise 16: OUTSIDE: their SIZES are more than 6").table("5").table("0 1; 1 0")
            .table("1 0 0; 0 2 0; 0 0 3").given("weave(1, 1)", "weave(1, 2)", "weave(2, 2)")
            .each(OUTSIDE, "weave(5, 0)", "weave(0, 5)", "weave(4, 1)", "weave(1, 4)", "weave(3, 2)", "weave(2, 3)",
                "weave(3, 3)", "weave(5, 5)");
        made(sizes, "weave(4, 0)", 6, BAND,
            "0 1 0 0 0 0; 1 0 0 0 0 0; 0 0 1 0 0 0; 0 0 0 2 0 0; 0 0 0 0 3 0; 0 0 0 0 0 5");
        made(sizes, "weave(0, 4)", 7, BAND,
            "5 0 0 0 0 0; 0 0 1 0 0 0; 0 1 0 0 0 0; 0 0 0 1 0 0; 0 0 0 0 2 0; 0 0 0 0 0 3");
        made(sizes, "weave(3, 1)", 8, NET,
            "0 1 0 0 0 0; 1 0 0 0 0 0; 0 0 0 1 0 0; 0 0 1 0 0 0; 0 0 0 0 0 1; 0 0 0 0 1 0");
        made(sizes, "weave(2, 2)", 9, SLANT,
            "1 0 0 0 0 0; 0 2 0 0 0 0; 0 0 3 0 0 0; 0 0 0 1 0 0; 0 0 0 0 2 0; 0 0 0 0 0 3");
        made(sizes, "weave(0, 0)", 10, SLANT, "5 0; 0 5");
        // What a table() that failed, or a GREAT mix(), wrote where the next table comes to stand is not told.
        Sentence nought = new Sentence("promise 16: 0 elsewhere").table("1 2; 2 3").leaf(0, "1 2 3").leaf(1, "1 2 3")
            .leaf(2, "1 2 3").found("table(0, 3)", UNEVEN, 1);
        made(nought, "weave(0, 0)", 1, BAND, "1 2 0 0; 2 3 0 0; 0 0 1 2; 0 0 2 3").due("mix(1, 0, 3, 10)", GREAT);
        made(nought, "weave(0, 0)", 2, BAND, "1 2 0 0; 2 3 0 0; 0 0 1 2; 0 0 2 3");
        new Sentence("promise 16: the first as told").table("1 0 0 0; 0 1 0 0; 0 0 1 0; 0 0 0 1")
            .table("1 2 3; 2 1 0; 3 0 1")
            .table("4").each(UNKNOWN, "weave(3, 0)", "weave(0, 3)", "weave(0, -1)", "weave(3, 3)").fill(60)
            .each(UNKNOWN, "weave(60, 0)", "weave(0, 60)").each(OUTSIDE, "weave(0, 1)", "weave(0, 0)", "weave(1, 0)")
            .each(FULL, "weave(1, 2)", "weave(1, 1)", "weave(0, 2)");
    }

    private static void line() {
        Sentence lines = new Sentence("promise 17: with the line, if there was none, else without it")
            .table("0 0 0; 0 0 0; 0 0 0");
        made(lines, "line(0, 0, 2)", 1, NET, "0 0 1; 0 0 0; 1 0 0");
        made(lines, "line(1, 2, 1)", 2, NET, "0 0 1; 0 0 1; 1 1 0");
        made(lines, "line(2, 2, 0)", 3, NET, "0 0 0; 0 0 1; 0 1 0");
        made(lines, "line(3, 1, 2)", 4, SLANT, "0 0 0; 0 0 0; 0 0 0").rows(3, "0 0 0; 0 0 1; 0 1 0");
        new Sentence("promise 17: OUTSIDE: i is k").table("0 1; 1 0").each(OUTSIDE, "line(0, 0, 0)", "line(0, 1, 1)",
            "line(0, 2, 2)", "line(0, -1, -1)", "line(0, least, least)").due("line(0, 1, 0)", 1);
        new Sentence("promise 17: UNFIT (a FLOW, too; a SLANT of 0 alone is taken)").table("0 1; 1 0").table("0 0; 0 1")
            .table("1 0; 0 0").table("1 1; 1 0").table("0 2; 2 0").table("0 0 2; 0 0 0; 2 0 0").table("3")
            .table("0 -1; -1 0")
            .given("flow(0)").each(UNFIT, "line(1, 0, 1)", "line(2, 0, 1)", "line(3, 0, 1)", "line(4, 0, 1)",
                "line(5, 0, 1)", "line(6, 0, 1)", "line(7, 0, 1)", "line(8, 0, 1)")
            .table("0 0; 0 0").due("line(9, 0, 1)", 10).number("kind(10)", NET).due("line(10, 0, 1)", 11)
            .number("kind(11)", SLANT).due("line(11, 1, 0)", 12).number("kind(12)", NET);
        new Sentence("promise 17: INDEX").table("0 1 0; 1 0 0; 0 0 0").table("0")
            .each(INDEX, "line(0, -1, 0)", "line(0, 0, -1)", "line(0, 3, 0)", "line(0, 0, 3)", "line(0, least, most)",
                "line(0, 3, 4)", "line(1, 0, 1)", "line(1, 1, 0)", "line(0, 5, 2)")
            .due("line(0, 0, 2)", 2).due("line(0, 2, 1)", 3);
        new Sentence("promise 17: the first as told").table("0 1; 1 0").table("3 1; 1 2").given("flow(0)")
            .each(UNKNOWN, "line(3, 0, 0)", "line(3, 0, 2)", "line(-1, 2, 2)", "line(3, 0, 1)")
            .each(OUTSIDE, "line(1, 0, 0)", "line(1, 2, 2)", "line(2, 1, 1)", "line(0, 2, 2)")
            .each(UNFIT, "line(1, 0, 2)", "line(1, -1, 0)", "line(2, 0, 2)").fill(60)
            .each(UNKNOWN, "line(60, 0, 0)", "line(60, 0, 1)").each(OUTSIDE, "line(0, 0, 0)", "line(1, 2, 2)")
            .each(FULL, "line(0, 0, 1)", "line(1, 0, 1)", "line(2, 0, 1)", "line(0, 0, 2)", "line(1, 0, -1)");
    }
}
