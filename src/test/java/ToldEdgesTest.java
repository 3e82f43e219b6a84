/** Promises 40 to 43 and the terms on FINDINGS, sentence by sentence, at the boundaries that they name. */
public final class ToldEdgesTest {
    private static final int NULL = Sentence.NULL, INDEX = Sentence.INDEX, CAST = Sentence.CAST, SIZE = Sentence.SIZE;
    private static final int BROKEN = Sentence.BROKEN, GREAT = Sentence.GREAT, UNEVEN = Sentence.UNEVEN;
    private static final int UNFIT = Sentence.UNFIT, UNKNOWN = Sentence.UNKNOWN, OUTSIDE = Sentence.OUTSIDE;
    private static final int STATE = Sentence.STATE, FULL = Sentence.FULL;

    public static void main(String[] args) {
        eachFinding();
        refusalsAreNone();
        findings();
        about();
        digestOfLeaves();
        digestOfTables();
        digestOfResult();
        calls();
        Sentence.end();
    }

    private static void eachFinding() {
        Sentence one = new Sentence("terms 4: FINDINGS are answered as -10 less them; promises 40 and 41")
            .number("finding()", 0).due("lose(3)", -11).number("finding()", 1).number("findings(1)", 1)
            .table("1 9; 9 1")
            .due("at(0, 2, 0)", -12).number("finding()", 2).number("findings(2)", 1).due("put(0, 1, 0, 1)", -13)
            .number("finding()", 3).number("findings(3)", 1).due("leaf(0, 0, -1)", -14).number("finding()", 4)
            .number("findings(4)", 1).leaf(5, 3, "d:0.5").found("table(5, 1)", -15, 0).number("finding()", 5)
            .number("findings(5)", 1).due("shift(0, 100)", -16).number("finding()", 6).number("findings(6)", 1)
            .leaf(1, "8 1").found("table(0, 2)", -17, 1).number("finding()", 7).number("findings(7)", 1)
            .due("flow(0)", -18).number("finding()", 8).number("findings(8)", 1);
        one.due("lose(3)", NULL).number("finding()", 1).number("findings(1)", 2);
        for (int f = 2; f <= 8; f++) one.number("findings(" + f + ")", 1);
    }

    private static void refusalsAreNone() {
        new Sentence("promise 40: the latest FINDING; refusals are none").table("4").due("kind(1)", UNKNOWN)
            .due("leaf(0, 4, 1)", OUTSIDE).due("drop(0, 0)", STATE).fill(60).due("shift(0, 0)", FULL)
            .number("finding()", 0).due("shift(0, 201)", OUTSIDE).due("at(0, 1, 0)", INDEX).number("finding()", 2)
            .due("kind(60)", UNKNOWN).due("drop(0, 1)", STATE).due("turn(0, 1, 0)", FULL).number("finding()", 2)
            .number("findings(2)", 1).number("findings(1)", 0);
    }

    private static void findings() {
        new Sentence("promise 41: OUTSIDE: no FINDING (1 .. 8)").due("lose(0)", NULL).table("0 1; 1 0").given("flow(0)")
            .due("flow(1)", UNFIT).each(OUTSIDE, "findings(0)", "findings(9)", "findings(-1)", "findings(-11)",
                "findings(least)", "findings(most)").number("findings(1)", 1).number("findings(8)", 1);
    }

    private static Sentence abouts(Sentence one, int... due) {
        for (int what = 0; what < due.length; what++) one.number("about(" + what + ")", due[what]);
        return one;
    }

    private static void about() {
        new Sentence("promise 42: OUTSIDE: what is not 0 to 6").table("4").each(OUTSIDE, "about(-1)", "about(7)",
            "about(least)", "about(most)").number("about(0)", 1).number("about(6)", 0);
        Sentence one = abouts(new Sentence("promise 42: how many"), 0, 0, 0, 0, 0, 0, 0);
        abouts(one.table("1 2 3; 2 4 5; 3 5 6"), 1, 3, 1, 0, 0, 0, 0);
        abouts(one.table("4"), 2, 3, 1, 1, 0, 0, 0);
        abouts(one.table("4 1; 1 4"), 3, 3, 1, 1, 1, 0, 0);
        abouts(one.table("0 1; 1 0"), 4, 3, 1, 1, 1, 1, 0);
        abouts(one.given("flow(3)"), 5, 3, 1, 1, 1, 1, 1);
        abouts(one.given("turn(4, 0, 0)", "leaf(15, 3, 0)", "lose(0)"), 6, 3, 1, 1, 2, 1, 1);
        abouts(one.due("lose(0)", NULL).due("leaf(0, 0, -1)", SIZE).due("flow(5)", UNFIT), 6, 3, 1, 1, 2, 1, 1);
        Sentence all = new Sentence("promise 42: 16 LEAVES and 60 TABLES");
        for (int l = 0; l < 16; l++) {
            all.number("about(1)", l).given("leaf(" + l + ", 0, 1)");
        }
        all.given("table(0, 1)").number("about(1)", 16).fill(60);
        abouts(all, 60, 16, 0, 60, 0, 0, 0).due("table(0, 1)", FULL);
        abouts(all, 60, 16, 0, 60, 0, 0, 0);
    }

    // ---- digest

    private static long fold(long... numbers) {
        long h = 41;
        for (long number : numbers) h = 31 * h + number;
        return h;
    }

    private static void digestOfLeaves() {
        new Sentence("promise 43: of each LEAF -1 (LOST), or how many numbers")
            .number("digest()", fold(-1, -1, -1, -1, -1, -1, -1, -1, -1, -1, -1, -1, -1, -1, -1, -1, 0))
            .given("leaf(0, 3, 0)", "leaf(1, 2, 8)", "leaf(15, 0, 5)", "put(15, 0, 4, 77)")
            .number("digest()", fold(0, 8, -1, -1, -1, -1, -1, -1, -1, -1, -1, -1, -1, -1, -1, 5, 0))
            .given("lose(0)", "lose(15)", "leaf(14, 1, 1)")
            .number("digest()", fold(-1, 8, -1, -1, -1, -1, -1, -1, -1, -1, -1, -1, -1, -1, 1, -1, 0));
    }

    private static void digestOfTables() {
        new Sentence("promise 43: of each TABLE its KIND, SIZE, numbers row by row").table("1 2 3; 2 4 -5; 3 -5 100")
            .given("lose(0)", "lose(1)", "lose(2)")
            .number("digest()", fold(-1, -1, -1, -1, -1, -1, -1, -1, -1, -1, -1, -1, -1, -1, -1, -1,
                0, 3, 1, 2, 3, 2, 4, -5, 3, -5, 100, 0))
            .given("drop(0, 0)", "drop(1, 1)")
            .number("digest()", fold(-1, -1, -1, -1, -1, -1, -1, -1, -1, -1, -1, -1, -1, -1, -1, -1,
                0, 3, 1, 2, 3, 2, 4, -5, 3, -5, 100, 2, 2, 4, -5, -5, 100, 1, 1, 4, 0))
            .table("0 1; 1 0").given("lose(0)", "lose(1)", "flow(3)")
            .number("digest()", fold(-1, -1, -1, -1, -1, -1, -1, -1, -1, -1, -1, -1, -1, -1, -1, -1,
                0, 3, 1, 2, 3, 2, 4, -5, 3, -5, 100, 2, 2, 4, -5, -5, 100, 1, 1, 4, 3, 2, 0, 1, 1, 0,
                4, 2, 1, -1, -1, 1, 0));
        long h = fold(-1, -1, -1, -1, -1, -1, -1, -1, -1, -1, -1, -1, -1, -1, -1, -1);
        for (int t = 0; t < 60; t++) h = 31 * (31 * (31 * h + 1) + 1) - 7;
        new Sentence("promise 43: of 60 TABLES").table("-7").given("lose(0)").fill(60).number("digest()", 31 * h);
    }

    private static void digestOfResult() {
        long one = fold(1, -1, -1, -1, -1, -1, -1, -1, -1, -1, -1, -1, -1, -1, -1, -1, 1, 1, 0);
        new Sentence("promise 43: THE RESULT: how many, of each its sign, how many bits, its lowest 32 bits")
            .table("0").given("worth(0)").number("digest()", more(one, 1, 0, 0, 0)).given("poly(0)")
            .number("digest()", more(one, 2, 0, 0, 0, 1, 1, 1)).due("show(0)", 1)
            .number("digest()", more(one, 1, 1, 1, 1));
        // 2^31 is told above 0, as a long.
        long slant = fold(6, 6, 6, 6, 6, 6, -1, -1, -1, -1, -1, -1, -1, -1, -1, -1, 1, 6, 64, 0, 0, 0, 0, 0, 0, 64, 0, 0, 0,
            0, 0, 0, 64, 0, 0, 0, 0, 0, 0, 64, 0, 0, 0, 0, 0, 0, 64, 0, 0, 0, 0, 0, 0, -2);
        new Sentence("promise 43: its lowest 32 bits, as a long")
            .table("64 0 0 0 0 0; 0 64 0 0 0 0; 0 0 64 0 0 0; 0 0 0 64 0 0; 0 0 0 0 64 0; 0 0 0 0 0 -2")
            .given("worth(0)")
            .number("digest()", more(slant, 1, -1, 32, 2147483648L));
        // Less 10^10: 2 times 2^32 and 1410065408.
        long great = fold(5, 5, 5, 5, 5, -1, -1, -1, -1, -1, -1, -1, -1, -1, -1, -1, 1, 5, 100, 0, 0, 0, 0, 0, -100, 0, 0, 0, 0,
            0, 100, 0, 0, 0, 0, 0, 100, 0, 0, 0, 0, 0, 100);
        new Sentence("promise 43: its lowest 32 bits, of 34")
            .table("100 0 0 0 0; 0 -100 0 0 0; 0 0 100 0 0; 0 0 0 100 0; 0 0 0 0 100").given("worth(0)")
            .number("digest()", more(great, 1, -1, 34, 1410065408));
    }

    private static long more(long start, long... numbers) {
        long h = start;
        for (long number : numbers) h = 31 * h + number;
        return h;
    }

    private static void calls() {
        Sentence one = new Sentence("an object is used for at most 512 calls: the last of them");
        for (int call = 1; call < 512; call++) one.given("lose(0)");
        one.number("findings(1)", 511);
        // leaf(), put(), table() and about() go ahead.
        Sentence last = new Sentence("an object is used for at most 512 calls: the last of them makes a RESULT")
            .table("7");
        for (int call = 5; call < 510; call++) last.given("worth(0)");
        last.number("poly(0)", 2).number("sign(0)", -1).number("word(0, 0)", 7);
    }
}
