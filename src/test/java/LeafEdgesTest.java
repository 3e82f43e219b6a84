/** Promises 1 to 4, sentence by sentence, at the boundaries that they name. */
public final class LeafEdgesTest {
    private static final int NULL = Sentence.NULL, INDEX = Sentence.INDEX, CAST = Sentence.CAST, SIZE = Sentence.SIZE;
    private static final int GREAT = Sentence.GREAT, UNKNOWN = Sentence.UNKNOWN, OUTSIDE = Sentence.OUTSIDE;

    public static void main(String[] args) {
        newObject();
        leafPlaces();
        leafLanes();
        leafNumbers();
        leafAnew();
        leafMeeting();
        putPlaces();
        putLanes();
        putNoFloat();
        putNoDouble();
        putNull();
        putCast();
        putIndex();
        putWords();
        putMeeting();
        lose();
        loseMeeting();
        Sentence.end();
    }

    private static void newObject() {
        Sentence lost = new Sentence("promise 1: LEAVES are LOST").number("about(1)", 0);
        for (int l = 0; l < 16; l++) {
            lost.due("lose(" + l + ")", NULL).found("table(" + l + ", 1)", NULL, 0);
        }
        new Sentence("promise 1: no TABLES").number("about(0)", 0).each(UNKNOWN, "kind(0)", "size(0)", "at(0, 0, 0)")
            .each(0, "about(2)", "about(3)", "about(4)", "about(5)", "about(6)")
            .table("5").number("about(0)", 1).number("at(0, 0, 0)", 5).due("kind(1)", UNKNOWN);
        new Sentence("promise 1: no RESULT").number("results()", 0).number("sign(0)", 0).number("bits(0)", 0)
            .number("word(0, 0)", 0).table("5").number("results()", 0).number("poly(0)", 2).result("-5 1");
        new Sentence("promises 6, 19, 26, 40, 41: at first").number("where()", -1).number("trace(0)", -1)
            .number("seen()", 0).number("finding()", 0)
            .each(0, "findings(1)", "findings(2)", "findings(3)", "findings(4)", "findings(5)", "findings(6)",
                "findings(7)", "findings(8)");
    }

    // ---- leaf

    private static void leafPlaces() {
        new Sentence("promise 2: UNKNOWN").each(UNKNOWN, "leaf(-1, 0, 1)", "leaf(16, 0, 1)", "leaf(least, 0, 1)",
            "leaf(most, 0, 1)").due("leaf(0, 0, 1)", 1).due("leaf(15, 0, 1)", 1).number("about(1)", 2)
            .table("4").due("leaf(-1, 0, 1)", UNKNOWN).due("leaf(16, 0, 1)", UNKNOWN);
    }

    private static void leafLanes() {
        new Sentence("promise 2: OUTSIDE: LANE").table("4").leaf(15, "3 0 7")
            .each(OUTSIDE, "leaf(15, -1, 1)", "leaf(15, 4, 1)", "leaf(15, least, 1)", "leaf(15, most, 1)",
                "leaf(3, -1, 1)", "leaf(3, 4, 0)")
            .due("leaf(15, 0, 1)", 1).due("put(15, 0, 0, 1)", 1).due("leaf(15, 1, 1)", 1).due("put(15, 1, 0, 1)", 1)
            .due("leaf(15, 2, 1)", 1).due("put(15, 2, 0, 1)", 1).due("leaf(15, 3, 1)", 1).due("put(15, 3, 0, 1)", 1);
    }

    private static void leafNumbers() {
        Sentence above = new Sentence("promise 2: OUTSIDE: n is above 8").table("4").leaf(2, "3 0 7");
        for (int lane = 0; lane < 4; lane++) {
            above.due("leaf(2, " + lane + ", 9)", OUTSIDE).due("leaf(2, " + lane + ", most)", OUTSIDE);
        }
        above.due("leaf(2, 0, 8)", 8).due("put(2, 0, 7, 5)", 1).due("put(2, 0, 8, 5)", INDEX).due("lose(2)", 8);
        Sentence below = new Sentence("promise 2: SIZE, below 0").table("4").leaf(2, "3 0 7");
        for (int lane = 0; lane < 4; lane++) {
            below.due("leaf(2, " + lane + ", -1)", SIZE).due("leaf(3, " + lane + ", least)", SIZE);
        }
        below.due("leaf(2, 0, 0)", 0).number("about(1)", 2).due("put(2, 0, 0, 5)", INDEX).due("lose(2)", 0);
        for (int n = 0; n <= 8; n++) {
            new Sentence("promise 2: a new row of " + n + " numbers").due("leaf(7, 3, " + n + ")", n)
                .due("put(7, 3, " + n + ", d:1)", INDEX).due("put(7, 3, " + (n - 1) + ", d:1)", n == 0 ? INDEX : 1)
                .due("lose(7)", n);
        }
    }

    private static void leafAnew() {
        Sentence first = new Sentence("terms 1: numbers are 0 at first").table("1 0 0; 0 1 0; 0 0 1");
        for (int lane = 0; lane < 4; lane++) {
            first.due("leaf(4, " + lane + ", 3)", 3).due("form(0, 4)", 2).result("0 0");
        }
        new Sentence("promise 2: a new row, 0 again").table("2 0 0; 0 1 0; 0 0 1").leaf(4, "3 5 7").due("form(0, 4)", 2)
            .result("92 83").due("leaf(4, 0, 3)", 3).due("form(0, 4)", 2).result("0 0")
            .leaf(4, 3, "d:3 d:5 d:7").due("form(0, 4)", 2).result("92 83")
            .due("leaf(4, 3, 2)", 2).found("form(0, 4)", INDEX, 2).due("leaf(4, 3, 3)", 3).due("form(0, 4)", 2)
            .result("0 0").leaf(4, "3 5 7").due("lose(4)", 3).due("leaf(4, 0, 3)", 3).due("form(0, 4)", 2)
            .result("0 0").number("at(0, 0, 0)", 2);
    }

    private static void leafMeeting() {
        new Sentence("promise 2: the first as told").table("4").leaf(2, "3 0 7")
            .each(UNKNOWN, "leaf(16, 4, 1)", "leaf(-1, 0, 9)", "leaf(16, 0, -1)", "leaf(-1, -1, -1)", "leaf(16, 4, 9)")
            .each(OUTSIDE, "leaf(2, 4, -1)", "leaf(2, -1, -1)", "leaf(2, 4, 9)", "leaf(9, 4, least)");
    }

    // ---- put

    private static void putPlaces() {
        new Sentence("promise 3: UNKNOWN").table("4").leaf(15, "3").each(UNKNOWN, "put(-1, 0, 0, 1)",
            "put(16, 0, 0, 1)", "put(least, 0, 0, 1)", "put(most, 0, 0, 1)")
            .due("put(0, 0, 0, 9)", 1).due("put(15, 0, 0, 9)", 1).due("form(0, 0)", 2).result("324 81")
            .due("form(0, 15)", 2).result("324 81");
    }

    private static void putLanes() {
        new Sentence("promise 3: OUTSIDE: LANE").table("4").leaf(1, "3").leaf(2, 3, "d:3")
            .each(OUTSIDE, "put(1, -1, 0, 1)", "put(1, 4, 0, 1)", "put(1, least, 0, 1)", "put(1, most, 0, 1)",
                "put(2, 4, 0, 1)", "put(2, -1, 0, 1)")
            .due("put(1, 0, 0, 1)", 1).due("put(2, 3, 0, d:1)", 1);
    }

    private static void putNoFloat() {
        new Sentence("promise 3: OUTSIDE: no number (NaN), of a float").table("4").leaf(1, 2, "f:3 f:5")
            .each(OUTSIDE, "put(1, 2, 0, 0x7f800001)", "put(1, 2, 0, 0x7fffffff)", "put(1, 2, 0, 0x7fc00000)",
                "put(1, 2, 0, 0xff800001)", "put(1, 2, 0, 0xffffffff)", "put(1, 2, 1, 0xffc00000)",
                "put(1, 2, 0, 0x017f800001)", "put(1, 2, 0, 0xffffffffff800001)", "put(1, 2, 0, -1)")
            .each(1, "put(1, 2, 0, 0x7f800000)", "put(1, 2, 0, 0xff800000)", "put(1, 2, 0, 0xffffffffff800000)",
                "put(1, 2, 0, 0x7f7fffff)", "put(1, 2, 0, 0xff7fffff)", "put(1, 2, 0, 0x7ff8000000000000)",
                "put(1, 2, 0, 0x7fffffff00000000)");
    }

    private static void putNoDouble() {
        new Sentence("promise 3: OUTSIDE: no number (NaN), of a double").table("4").leaf(1, 3, "d:3 d:5")
            .each(OUTSIDE, "put(1, 3, 0, 0x7ff0000000000001)", "put(1, 3, 0, 0x7fffffffffffffff)",
                "put(1, 3, 0, 0x7ff8000000000000)", "put(1, 3, 0, 0xfff0000000000001)", "put(1, 3, 1, -1)",
                "put(1, 3, 0, 0xfff8000000000000)", "put(1, 3, 0, 0x7ff0000100000000)")
            .each(1, "put(1, 3, 0, 0x7ff0000000000000)", "put(1, 3, 0, 0xfff0000000000000)",
                "put(1, 3, 0, 0x7fefffffffffffff)", "put(1, 3, 0, 0xffefffffffffffff)", "put(1, 3, 0, 0x7fc00000)",
                "put(1, 3, 0, 0xff800001)");
        new Sentence("promise 3: no number (NaN) is none of an int or a long").table("4").due("leaf(1, 0, 1)", 1)
            .each(1, "put(1, 0, 0, 0x7fc00000)", "put(1, 0, 0, 0x7ff8000000000000)", "put(1, 0, 0, -1)")
            .due("leaf(1, 1, 1)", 1)
            .each(1, "put(1, 1, 0, 0x7fc00000)", "put(1, 1, 0, 0x7ff8000000000000)", "put(1, 1, 0, -1)")
            .due("form(0, 1)", 2).result("4 1");
    }

    private static void putNull() {
        new Sentence("promise 3: NULL").table("4").each(NULL, "put(1, 0, 0, 1)", "put(15, 3, 0, 1)").leaf(1, "3")
            .due("put(1, 0, 0, 1)", 1).due("lose(1)", 1).due("put(1, 0, 0, 1)", NULL).due("leaf(1, 0, 0)", 0)
            .due("put(1, 0, 0, 1)", INDEX);
    }

    private static void putCast() {
        for (int has = 0; has < 4; has++) {
            Sentence cast = new Sentence("promise 3: CAST, of lane " + has).table("1")
                .due("leaf(3, " + has + ", 2)", 2);
            for (int lane = 0; lane < 4; lane++) {
                if (lane != has) cast.due("put(3, " + lane + ", 1, 0)", CAST);
            }
            cast.due("put(3, " + has + ", 1, 0)", 1);
        }
        new Sentence("promise 3: CAST, of a new lane").table("4").leaf(1, "3").due("leaf(1, 2, 1)", 1)
            .due("put(1, 0, 0, 1)", CAST).due("put(1, 2, 0, f:5)", 1).due("form(0, 1)", 2).result("100 25")
            .due("lose(1)", 1).due("leaf(1, 1, 1)", 1).due("put(1, 2, 0, 1)", CAST).due("put(1, 1, 0, 1)", 1);
    }

    private static void putIndex() {
        new Sentence("promise 3: INDEX").table("4").leaf(1, "3 5 7").leaf(2, 3, "d:1 0 0 0 0 0 0 d:1")
            .each(INDEX, "put(1, 0, -1, 1)", "put(1, 0, 3, 1)", "put(1, 0, 8, 1)", "put(1, 0, least, 1)",
                "put(1, 0, most, 1)", "put(2, 3, 8, d:1)", "put(2, 3, -1, d:1)")
            .due("put(1, 0, 0, 1)", 1).due("put(1, 0, 2, 1)", 1).due("put(2, 3, 0, d:1)", 1)
            .due("put(2, 3, 7, d:1)", 1).due("leaf(1, 0, 0)", 0).due("put(1, 0, 0, 1)", INDEX)
            .due("put(1, 0, -1, 1)", INDEX);
    }

    private static void putWords() {
        new Sentence("promise 3: an int by its lowest 32 bits").table("1").due("leaf(1, 0, 1)", 1)
            .given("put(1, 0, 0, 0x100000005)").due("form(0, 1)", 2).result("25 25")
            .given("put(1, 0, 0, 0x7fffffff00000064)").due("form(0, 1)", 2).result("10000 10000")
            .given("put(1, 0, 0, 0xffffff9c)", "table(1, 1)").number("at(1, 0, 0)", -100)
            .given("put(1, 0, 0, 0xffffff9b)").found("form(0, 1)", GREAT, 0)
            .given("put(1, 0, 0, 0x80000000)").found("table(1, 1)", GREAT, 0)
            .given("put(1, 0, 0, 0x8000000000000000)", "table(1, 1)").number("at(2, 0, 0)", 0);
        new Sentence("promise 3: a float by the bits that are these").table("1").due("leaf(1, 2, 1)", 1)
            .given("put(1, 2, 0, 0xc0400000)", "table(1, 1)").number("at(1, 0, 0)", -3)
            .given("put(1, 2, 0, 0x0000000140400000)", "table(1, 1)").number("at(2, 0, 0)", 3)
            .given("put(1, 2, 0, 0xffffffffc0400000)", "table(1, 1)").number("at(3, 0, 0)", -3)
            .given("put(1, 2, 0, 0x4008000000000000)", "table(1, 1)").number("at(4, 0, 0)", 0);
        new Sentence("promise 3: a double by all").table("1").due("leaf(1, 3, 1)", 1)
            .given("put(1, 3, 0, 0xc008000000000000)", "table(1, 1)").number("at(1, 0, 0)", -3)
            .given("put(1, 3, 0, 0x4008000000000001)").found("table(1, 1)", Sentence.BROKEN, 0)
            .given("put(1, 3, 0, 0x40400000)").found("table(1, 1)", Sentence.BROKEN, 0);
        new Sentence("promise 3: a long by all").table("1").due("leaf(1, 1, 1)", 1)
            .given("put(1, 1, 0, 0x100000005)").found("table(1, 1)", GREAT, 0)
            .given("put(1, 1, 0, 0xffffff9c)").found("table(1, 1)", GREAT, 0)
            .given("put(1, 1, 0, -100)", "table(1, 1)").number("at(1, 0, 0)", -100);
    }

    private static void putMeeting() {
        new Sentence("promise 3: the first as told").table("4").leaf(1, "3 5").leaf(2, 3, "d:3").leaf(3, 2, "f:3")
            .given("leaf(4, 0, 1)", "lose(4)")
            .each(UNKNOWN, "put(16, 4, 0, 1)", "put(-1, 3, 0, d:NaN)", "put(16, 2, 0, f:NaN)", "put(-1, 0, -1, 1)",
                "put(16, 4, 9, d:NaN)")
            .each(OUTSIDE, "put(9, 4, 0, 1)", "put(9, -1, 0, 1)", "put(9, 3, 0, d:NaN)", "put(9, 2, 0, f:NaN)",
                "put(1, 4, 9, 1)", "put(1, 3, 0, d:NaN)", "put(1, 2, 0, f:NaN)", "put(2, 3, 1, d:NaN)",
                "put(3, 2, -1, f:NaN)", "put(2, 2, 0, f:NaN)", "put(3, 3, 0, d:NaN)")
            .each(NULL, "put(9, 0, 9, 1)", "put(9, 3, -1, d:1)", "put(4, 1, 0, 1)", "put(4, 0, 9, 1)")
            .each(CAST, "put(1, 1, 2, 1)", "put(1, 3, -1, d:1)", "put(2, 0, 9, 1)", "put(3, 3, 9, d:1)");
    }

    // ---- lose

    private static void lose() {
        for (int n = 0; n <= 8; n++) {
            new Sentence("promise 4: how many numbers it had, " + n).table("1").given("leaf(5, 1, " + n + ")")
                .number("about(1)", 2).due("lose(5)", n).number("about(1)", 1).due("lose(5)", NULL);
        }
        new Sentence("promise 4: UNKNOWN").table("1").leaf(15, "1 2")
            .each(UNKNOWN, "lose(-1)", "lose(16)", "lose(least)", "lose(most)").due("lose(0)", 1).due("lose(15)", 2);
        new Sentence("promise 4: NULL").table("1").due("lose(1)", NULL).due("lose(15)", NULL).due("lose(0)", 1)
            .due("lose(0)", NULL).due("leaf(0, 0, -1)", SIZE).due("lose(0)", NULL).due("leaf(0, 0, 9)", OUTSIDE)
            .due("lose(0)", NULL);
    }

    private static void loseMeeting() {
        new Sentence("promise 4: its TABLES stay").table("4 1; 1 7").due("lose(0)", 2).due("lose(1)", 2)
            .rows(0, "4 1; 1 7").found("table(0, 2)", NULL, 0).leaf(0, "4 1").found("table(0, 2)", NULL, 10);
    }
}
