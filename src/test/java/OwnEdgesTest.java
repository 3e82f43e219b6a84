/** Promises 20 to 27 and the terms on OWN VALUES, sentence by sentence, at the boundaries that they name. */
public final class OwnEdgesTest {
    private static final int INDEX = Sentence.INDEX, UNKNOWN = Sentence.UNKNOWN, OUTSIDE = Sentence.OUTSIDE;
    private static final String HUNDREDS = "100 100 100 100 100 100; 100 100 100 100 100 100; 100 100 100 100 100 100; "
        + "100 100 100 100 100 100; 100 100 100 100 100 100; 100 100 100 100 100 100";
    // Own values 1, 2, 2, 3, 3, 3.
    private static final String SIX = "3 0 0 0 0 0; 0 1 0 0 0 0; 0 0 3 0 0 0; 0 0 0 2 0 0; 0 0 0 0 3 0; 0 0 0 0 0 2";

    public static void main(String[] args) {
        unknown();
        refusedStays();
        ownValues();
        leastPolynomial();
        often();
        countWhat();
        countFraction();
        countSides();
        shutPlaces();
        shutParts();
        shutGreatestWhole();
        seen();
        same();
        Sentence.end();
    }

    private static void unknown() {
        String[] calls = {"poly(?)", "worth(?)", "ring(?)", "often(?, 1)", "count(?, 0, 0, 1)", "shut(?, 0, 0)",
            "same(?, 0)", "same(0, ?)"};
        for (String call : calls) {
            Sentence one = new Sentence("promises 20 to 27: UNKNOWN, " + call).due(call.replace("?", "0"), UNKNOWN)
                .table("2 1; 1 2").table("5").given("worth(0)", "shut(0, 1, 0)");
            for (String t : new String[] {"-1", "2", "59", "60", "least", "most"}) {
                one.due(call.replace("?", t), UNKNOWN);
            }
            one.number("seen()", 3).result("3");
        }
        String[] due = {"2 poly(?)", "1 worth(?)", "2 ring(?)", "1 often(?, 1)", "0 count(?, 0, 0, 1)",
            "1 shut(?, 0, 0)", "1 same(?, 0)", "1 same(0, ?)"};
        for (String one : due) {
            String call = one.substring(2);
            new Sentence("promises 20 to 27: the first TABLE and the last, " + call).table("5").fill(60)
                .number(call.replace("?", "0"), one.charAt(0) - '0')
                .number(call.replace("?", "59"), one.charAt(0) - '0')
                .due(call.replace("?", "60"), UNKNOWN);
        }
        new Sentence("promise 27: UNKNOWN, both").table("5")
            .each(UNKNOWN, "same(1, 1)", "same(-1, -1)", "same(60, 60)");
    }

    private static void refusedStays() {
        new Sentence("promises 20 to 25: the first as told").table("5").given("poly(0)", "shut(0, 0, 3)")
            .each(UNKNOWN, "often(1, 0)", "often(-1, 7)", "count(1, 6, 0, 1)", "count(-1, 0, 0, 0)",
                "count(1, -1, 1000001, 1001)", "shut(1, 0, 21)", "shut(1, 9, 0)", "shut(-1, -1, -1)")
            .each(OUTSIDE, "shut(0, 1, 21)", "shut(0, -1, -1)", "shut(0, 9, 21)", "count(0, 6, 1000001, 0)")
            .due("shut(0, 1, 20)", INDEX).number("seen()", 40).result("-5 1");
    }

    private static void ownValues() {
        new Sentence("terms 1: the worth of x where i is k less T; 1 x^n and so on; promises 20 and 21").table("-7")
            .table("0").table("0 0 0 0 0 0; 0 0 0 0 0 0; 0 0 0 0 0 0; 0 0 0 0 0 0; 0 0 0 0 0 0; 0 0 0 0 0 0")
            .table(HUNDREDS).table("2 1; 1 -2").table("0 1 1; 1 0 1; 1 1 0")
            .due("poly(0)", 2).result("7 1").due("worth(0)", 1).result("-7").due("poly(1)", 2).result("0 1")
            .due("worth(1)", 1).result("0").due("poly(2)", 7).result("0 0 0 0 0 0 1").due("worth(2)", 1).result("0")
            .due("poly(3)", 7).result("0 0 0 0 0 -600 1").due("worth(3)", 1).result("0").due("poly(4)", 3)
            .result("-5 0 1").due("worth(4)", 1).result("-5").due("poly(5)", 4).result("-2 -3 0 1")
            .due("worth(5)", 1).result("2");
        new Sentence("promise 21: the greatest and the least worth of a SLANT")
            .table("100 0 0 0 0 0; 0 100 0 0 0 0; 0 0 100 0 0 0; 0 0 0 100 0 0; 0 0 0 0 100 0; 0 0 0 0 0 100")
            .table("100 0 0 0 0 0; 0 100 0 0 0 0; 0 0 100 0 0 0; 0 0 0 100 0 0; 0 0 0 0 100 0; 0 0 0 0 0 -100")
            .due("worth(0)", 1).result("1000000000000").due("worth(1)", 1).result("-1000000000000")
            .due("poly(0)", 7).result("1000000000000 -60000000000 1500000000 -20000000 150000 -600 1");
        // Rows of 100 and less 100 that meet in 0 as often as such rows can.
        new Sentence("promise 21: great where i is not k, too").table("100 100 100 100; 100 -100 100 -100; "
            + "100 100 -100 -100; 100 -100 -100 100").due("worth(0)", 1).result("1600000000").due("poly(0)", 5)
            .result("1600000000 0 -80000 0 1").due("ring(0)", 3).result("-40000 0 1");
    }

    private static void leastPolynomial() {
        new Sentence("terms 1: the LEAST POLYNOMIAL has each UNLIKE one as a root once; promise 22").table(SIX)
            .table("4 0 0; 0 4 0; 0 0 4").table("2 1; 1 2").table("-7").table("0").table(HUNDREDS)
            .table("0 1 1; 1 0 1; 1 1 0")
            .due("ring(0)", 4).result("-6 11 -6 1").due("ring(1)", 2).result("-4 1").due("ring(2)", 3).result("3 -4 1")
            .due("ring(3)", 2).result("7 1").due("ring(4)", 2).result("0 1").due("ring(5)", 3).result("0 -600 1")
            .due("ring(6)", 3).result("-2 -1 1");
        new Sentence("terms 1: UNLIKE ones: each once, also where none is whole").table("0 1; 1 1").given("weave(0, 0)")
            .given("weave(0, 1)").due("ring(0)", 3).result("-1 -1 1").due("ring(1)", 3).result("-1 -1 1")
            .due("ring(2)", 3)
            .result("-1 -1 1").due("poly(2)", 7).result("-1 -3 0 5 0 -3 1").due("often(2, 3)", 2).due("often(2, 4)", 0);
        new Sentence("terms 1: six UNLIKE ones")
            .table("1 0 0 0 0 0; 0 2 0 0 0 0; 0 0 3 0 0 0; 0 0 0 4 0 0; 0 0 0 0 5 0; "
            + "0 0 0 0 0 6").due("ring(0)", 7).result("720 -1764 1624 -735 175 -21 1").due("often(0, 1)", 6)
            .due("often(0, 2)", 0);
    }

    private static void often() {
        new Sentence("promise 23: OUTSIDE: j is not 1 to 6").table(SIX).table("4 0 0 0 0 0; 0 4 0 0 0 0; 0 0 4 0 0 0; "
            + "0 0 0 4 0 0; 0 0 0 0 4 0; 0 0 0 0 0 4").table("9")
                .each(OUTSIDE, "often(0, 0)", "often(0, 7)", "often(0, -1)",
                "often(0, least)", "often(0, most)", "often(2, 0)", "often(2, 7)")
            .due("often(0, 1)", 3).due("often(0, 2)", 2).due("often(0, 3)", 1).due("often(0, 4)", 0)
            .due("often(0, 5)", 0)
            .due("often(0, 6)", 0).due("often(1, 1)", 1).due("often(1, 5)", 1).due("often(1, 6)", 1)
            .due("often(2, 1)", 1)
            .due("often(2, 2)", 0).due("often(2, 6)", 0);
        new Sentence("promise 23: at least j times, 5 and 1").table(HUNDREDS).due("often(0, 1)", 2)
            .due("often(0, 2)", 1)
            .due("often(0, 5)", 1).due("often(0, 6)", 0);
    }

    // ---- count

    private static void countWhat() {
        new Sentence("promise 24: OUTSIDE: what").table(SIX).each(OUTSIDE, "count(0, -1, 0, 1)", "count(0, 6, 0, 1)",
            "count(0, least, 0, 1)", "count(0, most, 0, 1)").due("count(0, 0, 3, 1)", 3).due("count(0, 5, 2, 1)", 1);
    }

    private static void countFraction() {
        new Sentence("promise 24: OUTSIDE: b is not 1 to 1000").table(SIX).each(OUTSIDE, "count(0, 0, 0, 0)",
            "count(0, 0, 0, 1001)", "count(0, 3, 1, -1)", "count(0, 1, 0, least)", "count(0, 5, 0, most)")
            .due("count(0, 1, 3, 1)", 3).due("count(0, 1, 3000, 1000)", 3).due("count(0, 1, 2999, 1000)", 0)
            .due("count(0, 1, 2997, 999)", 3);
        new Sentence("promise 24: OUTSIDE: a of a size above 1000000").table(SIX)
            .each(OUTSIDE, "count(0, 0, 1000001, 1)",
            "count(0, 0, -1000001, 1)", "count(0, 3, 1000001, 1000)", "count(0, 0, least, 1)", "count(0, 0, most, 1)")
            .due("count(0, 0, 1000000, 1)", 6).due("count(0, 0, -1000000, 1)", 0).due("count(0, 2, -1000000, 1000)", 6)
            .due("count(0, 5, -1000000, 1)", 3).due("count(0, 3, 1000000, 1000)", 3);
        new Sentence("promise 24: OUTSIDE, each one of several").table(SIX).each(OUTSIDE, "count(0, 6, 1000001, 0)",
            "count(0, 0, 1000001, 1001)", "count(0, -1, 0, 0)", "count(0, 6, 0, 1001)");
    }

    private static void counts(Sentence one, int t, String fraction, int... due) {
        for (int what = 0; what < 6; what++) {
            one.due("count(" + t + ", " + what + ", " + fraction + ")", due[what]);
        }
    }

    private static void countSides() {
        Sentence whole = new Sentence("promise 24: below, just it, above; of UNLIKE ones likewise").table(SIX)
            .table("0")
            .table(HUNDREDS).table("-100");
        counts(whole, 0, "2, 1", 1, 2, 3, 1, 1, 1);
        counts(whole, 0, "1999, 1000", 1, 0, 5, 1, 0, 2);
        counts(whole, 0, "2001, 1000", 3, 0, 3, 2, 0, 1);
        counts(whole, 0, "3, 1", 3, 3, 0, 2, 1, 0);
        counts(whole, 0, "3001, 1000", 6, 0, 0, 3, 0, 0);
        counts(whole, 0, "999, 1000", 0, 0, 6, 0, 0, 3);
        counts(whole, 0, "4, 4", 0, 1, 5, 0, 1, 2);
        counts(whole, 1, "0, 1000", 0, 1, 0, 0, 1, 0);
        counts(whole, 1, "1, 1000", 1, 0, 0, 1, 0, 0);
        counts(whole, 1, "-1, 1000", 0, 0, 1, 0, 0, 1);
        counts(whole, 2, "600, 1", 5, 1, 0, 1, 1, 0);
        counts(whole, 2, "600000, 1000", 5, 1, 0, 1, 1, 0);
        counts(whole, 2, "599999, 1000", 5, 0, 1, 1, 0, 1);
        counts(whole, 2, "600001, 1000", 6, 0, 0, 2, 0, 0);
        counts(whole, 2, "0, 1", 0, 5, 1, 0, 1, 1);
        counts(whole, 3, "-100, 1", 0, 1, 0, 0, 1, 0);
        counts(whole, 3, "-100001, 1000", 0, 0, 1, 0, 0, 1);
        counts(whole, 3, "-99999, 1000", 1, 0, 0, 1, 0, 0);
        // 1.61803398.. and -0.61803398.., each twice; 987 / 610 and 610 / 377 lie close on either side.
        Sentence golden = new Sentence("promise 24: at a fraction close by").table("0 1; 1 1").given("weave(0, 0)");
        counts(golden, 1, "987, 610", 2, 0, 2, 1, 0, 1);
        counts(golden, 1, "1597, 987", 4, 0, 0, 2, 0, 0);
        counts(golden, 1, "610, 377", 4, 0, 0, 2, 0, 0);
        counts(golden, 1, "-377, 610", 2, 0, 2, 1, 0, 1);
        counts(golden, 1, "-610, 987", 0, 0, 4, 0, 0, 2);
    }

    // ---- shut

    private static void shut(Sentence one, int t, int i, int k, int due, long seen) {
        one.due("shut(" + t + ", " + i + ", " + k + ")", due).number("seen()", seen);
    }

    private static void shutPlaces() {
        Sentence places = new Sentence("promise 25: INDEX; the i-th UNLIKE one, from 0, the least first").table(SIX)
            .table("9").table(HUNDREDS);
        shut(places, 0, 2, 0, 1, 3);
        places.each(INDEX, "shut(0, 3, 0)", "shut(0, -1, 0)", "shut(0, 6, 0)", "shut(0, least, 0)", "shut(0, most, 20)",
            "shut(1, 1, 0)", "shut(1, -1, 0)", "shut(2, 2, 0)").number("seen()", 3);
        shut(places, 0, 0, 0, 1, 1);
        shut(places, 0, 1, 0, 1, 2);
        shut(places, 1, 0, 0, 1, 9);
        shut(places, 2, 0, 0, 1, 0);
        shut(places, 2, 1, 0, 1, 600);
        Sentence six = new Sentence("promise 25: the sixth of six").table("6 0 0 0 0 0; 0 2 0 0 0 0; 0 0 -3 0 0 0; "
            + "0 0 0 4 0 0; 0 0 0 0 5 0; 0 0 0 0 0 1");
        int[] due = {-3, 1, 2, 4, 5, 6};
        for (int i = 0; i < 6; i++) shut(six, 0, i, 2, 1, 4 * due[i]);
        six.due("shut(0, 6, 0)", INDEX).number("seen()", 24);
    }

    private static void shutParts() {
        Sentence parts = new Sentence("promise 25: OUTSIDE: k is not 0 to 20").table("0 1; 1 1");
        shut(parts, 0, 1, 4, 0, 25);
        parts.each(OUTSIDE, "shut(0, 0, -1)", "shut(0, 0, 21)", "shut(0, 1, 31)", "shut(0, 0, 32)", "shut(0, 0, least)",
            "shut(0, 0, most)").number("seen()", 25);
        // 1.6180339887.. and -0.6180339887.. times 2^k; times 2^20 they are 1696631.36.. and -648055.36..
        shut(parts, 0, 1, 0, 0, 1);
        shut(parts, 0, 0, 0, 0, -1);
        shut(parts, 0, 1, 20, 0, 1696631);
        shut(parts, 0, 0, 20, 0, -648056);
        shut(parts, 0, 0, 1, 0, -2);
        shut(parts, 0, 1, 1, 0, 3);
    }

    private static void shutGreatestWhole() {
        Sentence whole = new Sentence("promise 25: the greatest whole m that is not above: 1: it is just that")
            .table(HUNDREDS).given("shift(0, -200)").table("0").table("-100 -100; -100 -100").table("0 1; 1 0");
        shut(whole, 0, 1, 20, 1, 629145600);
        shut(whole, 0, 0, 20, 1, 0);
        shut(whole, 1, 0, 20, 1, -209715200);
        shut(whole, 1, 1, 20, 1, 419430400);
        shut(whole, 2, 0, 20, 1, 0);
        shut(whole, 3, 0, 20, 1, -209715200);
        shut(whole, 4, 0, 0, 1, -1);
        shut(whole, 4, 1, 0, 1, 1);
        Sentence least = new Sentence("promise 25: the least OWN VALUE that there can be")
            .table(HUNDREDS.replace("1", "-1"));
        shut(least, 0, 0, 0, 1, -600);
        shut(least, 0, 0, 20, 1, -629145600);
        shut(least, 0, 1, 20, 1, 0);
        // 2 and less the root of 2: above 0 and below it the whole number lies on the lesser side.
        Sentence roots = new Sentence("promise 25: the greatest whole m that is not above: 0").table("1 1; 1 -1");
        shut(roots, 0, 1, 0, 0, 1);
        shut(roots, 0, 0, 0, 0, -2);
        shut(roots, 0, 1, 20, 0, 1482910);
        shut(roots, 0, 0, 20, 0, -1482911);
        // 0, 0.38.., 2.61..: the second is not just at 0, though the first is.
        Sentence behind = new Sentence("promise 25: it, not another one, is just that").table("0 0 0; 0 1 1; 0 1 2");
        shut(behind, 0, 0, 0, 1, 0);
        shut(behind, 0, 1, 0, 0, 0);
        shut(behind, 0, 1, 1, 0, 0);
        shut(behind, 0, 1, 2, 0, 1);
        shut(behind, 0, 2, 0, 0, 2);
    }

    private static void seen() {
        Sentence seen = new Sentence("promise 26: SEEN; 0 at first").number("seen()", 0).table(SIX).number("seen()", 0)
            .due("shut(0, 3, 0)", INDEX).number("seen()", 0).due("shut(0, 0, 21)", OUTSIDE)
            .due("shut(1, 0, 0)", UNKNOWN)
            .number("seen()", 0);
        shut(seen, 0, 1, 3, 1, 16);
        seen.due("count(0, 0, 3, 1)", 3).due("ring(0)", 4).number("seen()", 16).due("shut(0, 3, 0)", INDEX)
            .number("seen()", 16);
    }

    private static void same() {
        new Sentence("promise 27: the same OWN VALUES, each as often").table("2 1; 1 2").table("1 0; 0 3")
            .table("1 0 0; 0 3 0; 0 0 3")
            .table("1 0 0; 0 1 0; 0 0 3").table("3").table("1 0 0; 0 3 0; 0 0 4").table("0").table("0 0; 0 0")
            .due("same(0, 1)", 1).due("same(1, 0)", 1).due("same(0, 0)", 1).due("same(2, 3)", 0).due("same(3, 2)", 0)
            .due("same(1, 2)", 0).due("same(2, 1)", 0).due("same(1, 4)", 0).due("same(4, 4)", 1).due("same(2, 5)", 0)
            .due("same(6, 7)", 0).due("same(7, 6)", 0).due("same(7, 7)", 1);
        new Sentence("promise 27: POLY unlike in one number alone").table("1 0 0; 0 3 0; 0 0 0")
            .table("2 0 0; 0 2 0; 0 0 0")
            .table("1 0 0; 0 0 0; 0 0 0").table("0 0 0; 0 2 0; 0 0 0").table("1 0; 0 3").table("2 0; 0 2")
            .due("same(0, 1)", 0).due("same(2, 3)", 0).due("same(4, 5)", 0).due("same(5, 4)", 0).due("same(2, 2)", 1);
    }
}
