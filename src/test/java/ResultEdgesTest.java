/** Promises 36 to 39 and the terms on THE RESULT, sentence by sentence, at the boundaries that they name. */
public final class ResultEdgesTest {
    // Own worths 2^16 - 1 and 2^16 + 1: side by side 2^32 - 1.
    private static final String BELOW = "100 7 1; 7 34 7; 1 7 21", ABOVE = "100 4 1; 4 99 6; 1 6 7";
    private static final String GREAT_WAY = "-95 95 94 -97 -89 92; 95 -90 100 -98 -90 95; 94 100 -95 -97 -92 -93; "
        + "-97 -98 -97 94 -96 89; -89 -90 -92 -96 100 100; 92 95 -93 89 100 96";

    public static void main(String[] args) {
        results();
        none();
        signs();
        bits();
        words();
        wordsOfNone();
        threeWords();
        Sentence.end();
    }

    private static void results() {
        new Sentence("promise 36: how many numbers THE RESULT has, none at first").number("results()", 0).table("7")
            .number("results()", 0).due("poly(0)", 2).number("results()", 2).due("worth(0)", 1).number("results()", 1)
            .due("form(0, 0)", 2).number("results()", 2).due("bend(0)", 2).number("results()", 2)
            .due("show(0)", -1).number("results()", 2).due("signs(0)", 100).number("results()", 2)
            .table("0 1 1; 1 0 1; 1 1 0").due("ring(1)", 3).number("results()", 3).due("poly(1)", 4)
            .number("results()", 4)
            .due("show(1)", 3).number("results()", 3).due("bend(1)", 12).number("results()", 12).due("walks(1, 3)", 1)
            .number("results()", 1).given("flow(1)").due("trees(2)", 1).number("results()", 1);
        new Sentence("terms 2: a row of 0 to 48, the longest").table(GREAT_WAY).due("bend(0)", 42)
            .number("results()", 42)
            .number("bits(41)", 39).number("sign(41)", -1).number("bits(42)", 0).number("sign(42)", 0)
            .number("word(42, 0)", 0).due("worth(0)", 1).number("results()", 1).number("bits(41)", 0)
            .number("sign(1)", 0);
    }

    /** Nothing is told of what an earlier RESULT had there. */
    private static void none() {
        for (String call : new String[] {"sign(?)", "bits(?)", "word(?, 0)"}) {
            Sentence one = new Sentence("promises 37 to 39: 0 also: there is none, " + call);
            String[] places = {"0", "1", "3", "47", "48", "49", "-1", "least", "most"};
            for (String i : places) one.number(call.replace("?", i), 0);
            one.table("9 1; 1 9").given("bend(0)", "poly(0)").number(call.replace("?", "2"), 1);
            for (int i = 2; i < places.length; i++) one.number(call.replace("?", places[i]), 0);
            one.given("worth(0)").number(call.replace("?", "1"), 0).number(call.replace("?", "2"), 0);
        }
    }

    private static void signs() {
        new Sentence("promise 37: -1, 0, 1").table("1 0; 0 -1").table("100 0; 0 0").table("-100 0; 0 100")
            .given("poly(0)").number("sign(0)", -1).number("sign(1)", 0).number("sign(2)", 1).given("worth(1)")
            .number("sign(0)", 0).given("worth(0)").number("sign(0)", -1).given("worth(2)").number("sign(0)", -1)
            .given("poly(1)").number("sign(0)", 0).number("sign(1)", -1).number("sign(2)", 1);
    }

    /** The worth of a table: sign, how many bits, words 0 and 1. */
    private static Sentence worth(Sentence one, int t, int sign, int bits, long word, long next) {
        return one.due("worth(" + t + ")", 1).number("sign(0)", sign).number("bits(0)", bits).number("word(0, 0)", word)
            .number("word(0, 1)", next).number("word(0, 2)", 0).number("word(0, -1)", 0);
    }

    private static void bits() {
        Sentence one = new Sentence("promise 38: how many bits the size has (0 of 0)").table("0").table("1").table("-1")
            .table("2").table("3").table("4").table("-64").table("63");
        worth(one, 0, 0, 0, 0, 0);
        worth(one, 1, 1, 1, 1, 0);
        worth(one, 2, -1, 1, 1, 0);
        worth(one, 3, 1, 2, 2, 0);
        worth(one, 4, 1, 2, 3, 0);
        worth(one, 5, 1, 3, 4, 0);
        worth(one, 6, -1, 7, 64, 0);
        worth(one, 7, 1, 6, 63, 0);
    }

    private static String slant(int... numbers) {
        StringBuilder rows = new StringBuilder();
        for (int i = 0; i < numbers.length; i++) {
            for (int k = 0; k < numbers.length; k++) {
                rows.append(k > 0 ? " " : i > 0 ? "; " : "").append(i == k ? numbers[i] : 0);
            }
        }
        return rows.toString();
    }

    private static void words() {
        Sentence one = new Sentence("promise 39: bits 32 k to 32 k + 31, as a long").table(BELOW).table(ABOVE)
            .given("weave(0, 1)").table(slant(64, 64, 64, 64, 64, 4)).table(slant(64, 64, 64, 64, 64, 2))
            .table(slant(-64, 64, 64, 64, 64, 4)).table(slant(100, 100, 100, 100, 100, 100))
            .table(slant(64, 64, 64, 64, 64, 1)).table(slant(64, 64, 64, 64, 32, 1));
        worth(one, 0, 1, 16, 65535, 0);
        worth(one, 1, 1, 17, 65537, 0);
        worth(one, 2, 1, 32, 4294967295L, 0);
        worth(one, 3, 1, 33, 0, 1);
        worth(one, 4, 1, 32, 2147483648L, 0);
        worth(one, 5, -1, 33, 0, 1);
        worth(one, 6, 1, 40, 3567587328L, 232);
        worth(one, 7, 1, 31, 1073741824, 0);
        worth(one, 8, 1, 30, 536870912, 0);
    }

    private static void wordsOfNone() {
        Sentence one = new Sentence("promise 39: 0 also: there are none").table(slant(100, 100, 100, 100, 100, 100))
            .given("worth(0)").number("word(0, 0)", 3567587328L).number("word(0, 1)", 232);
        for (String k : new String[] {"2", "3", "11", "12", "13", "-1", "-2", "134217728", "-134217728", "67108864",
            "268435456", "536870912", "1073741824", "least", "most"}) {
            one.number("word(0, " + k + ")", 0);
        }
    }

    private static void threeWords() {
        // 42149127860639321392034730 is 2284908 times 2^64, 3434873134 times 2^32 and 789197738.
        Sentence one = new Sentence("terms 2: whole numbers of any size").table(GREAT_WAY).due("bend(0)", 42)
            .number("sign(5)", 1).number("bits(5)", 86).number("word(5, 0)", 789197738)
            .number("word(5, 1)", 3434873134L)
            .number("word(5, 2)", 2284908).number("word(5, 3)", 0).number("word(5, -1)", 0);
        // Less 2454041082953265, which is 571375 times 2^32 and 4144201265.
        one.number("sign(3)", -1).number("bits(3)", 52).number("word(3, 0)", 4144201265L).number("word(3, 1)", 571375)
            .number("word(3, 2)", 0);
    }
}
