/** Promises 5 to 10 and the terms on TABLES, sentence by sentence, at the boundaries that they name. */
public final class TableEdgesTest {
    private static final int NULL = Sentence.NULL, INDEX = Sentence.INDEX, BROKEN = Sentence.BROKEN;
    private static final int GREAT = Sentence.GREAT, UNEVEN = Sentence.UNEVEN;
    private static final int UNKNOWN = Sentence.UNKNOWN, OUTSIDE = Sentence.OUTSIDE, FULL = Sentence.FULL;
    private static final int TABLE = 0, SLANT = 1, BAND = 2, NET = 3, FLOW = 4;
    private static final String SIX =
        "1 2 3 4 5 6; 2 7 8 9 10 11; 3 8 12 13 14 15; 4 9 13 16 17 18; 5 10 14 17 19 20; 6 11 15 18 20 21";

    public static void main(String[] args) {
        tableSizes();
        tableLeaves();
        tableFull();
        tableFirstNumbers();
        tableNull();
        tableIndex();
        tableBroken();
        tableGreat();
        wholeNumbers();
        tableUneven();
        tablePlaceByPlace();
        tableMeeting();
        where();
        kinds();
        kindOrder();
        flowsAreMadeByFlow();
        unknown();
        is();
        at();
        Sentence.end();
    }

    // ---- table

    private static void tableSizes() {
        new Sentence("promise 5: OUTSIDE: n is not 1 to 6").table(SIX)
            .each(OUTSIDE, "table(0, 0)", "table(0, 7)", "table(0, -1)", "table(0, least)", "table(0, most)",
                "table(5, 0)", "table(9, 7)")
            .due("table(0, 6)", 1).rows(1, SIX).due("table(0, 1)", 2).rows(2, "1");
        for (int n = 1; n <= 6; n++) {
            new Sentence("terms 1: a SIZE n of 1 to 6, " + n).table(SIX).due("table(0, " + n + ")", 1)
                .number("size(1)", n).number("at(1, " + (n - 1) + ", 0)", n).due("at(1, " + n + ", 0)", INDEX);
        }
    }

    private static void tableLeaves() {
        new Sentence("promise 5: OUTSIDE: first is below 0").table("4")
            .each(OUTSIDE, "table(-1, 1)", "table(-1, 6)", "table(-6, 6)", "table(least, 1)", "table(least, 6)")
            .due("table(0, 1)", 1);
        new Sentence("promise 5: OUTSIDE: first + n is above 16").table("4")
            .leaf(10, "9 0 0 0 0 0").leaf(11, "0 1 0 0 0 0").leaf(12, "0 0 1 0 0 0").leaf(13, "0 0 0 1 0 0")
            .leaf(14, "0 0 0 0 1 0").leaf(15, "0 0 0 0 0 8")
            .each(OUTSIDE, "table(16, 1)", "table(15, 2)", "table(14, 3)", "table(13, 4)", "table(12, 5)",
                "table(11, 6)", "table(most, 1)", "table(most, 6)", "table(2147483642, 6)")
            .due("table(10, 6)", 1)
            .rows(1, "9 0 0 0 0 0; 0 1 0 0 0 0; 0 0 1 0 0 0; 0 0 0 1 0 0; 0 0 0 0 1 0; 0 0 0 0 0 8")
            .due("table(15, 1)", 2).rows(2, "0").due("table(14, 2)", 3).rows(3, "0 0; 0 0");
    }

    private static void tableFull() {
        new Sentence("terms 1: 60 TABLES at most, numbered as they are made; promise 5: FULL").table("3 1; 1 2")
            .fill(59)
            .due("table(0, 1)", 59).number("about(0)", 60).rows(59, "3").due("table(0, 1)", FULL)
            .due("table(0, 2)", FULL).number("about(0)", 60).due("kind(60)", UNKNOWN).number("kind(59)", SLANT);
    }

    private static void tableFirstNumbers() {
        new Sentence("promise 5: the first n numbers").leaf(0, "5 -2 101 7 7 7 7 7").leaf(1, 1, "-2 6 8").leaf(2, "1")
            .due("table(0, 2)", 0).rows(0, "5 -2; -2 6").due("table(0, 1)", 1).rows(1, "5")
            .due("table(1, 1)", 2).rows(2, "-2").found("table(0, 3)", GREAT, 2);
    }

    private static void tableNull() {
        String[] rows = SIX.split("; ");
        for (int lost = 0; lost < 6; lost++) {
            Sentence one = new Sentence("promise 5: NULL: WHERE becomes 10 i, of row " + lost).table("4");
            for (int i = 0; i < 6; i++) one.leaf(3 + i, rows[i]);
            one.due("lose(" + (3 + lost) + ")", 6).found("table(3, 6)", NULL, 10 * lost);
            if (lost > 0) one.due("table(3, " + lost + ")", 1);
        }
    }

    private static void tableIndex() {
        String[] rows = SIX.split("; ");
        for (int shorter = 0; shorter < 6; shorter++) {
            Sentence one = new Sentence("promise 5: INDEX, of row " + shorter).table("4");
            for (int i = 0; i < 6; i++) {
                one.leaf(3 + i, i == shorter ? rows[i].substring(0, rows[i].lastIndexOf(' ')) : rows[i]);
            }
            one.found("table(3, 6)", INDEX, 10 * shorter + 5).due("leaf(" + (3 + shorter) + ", 0, 0)", 0)
                .found("table(3, 6)", INDEX, 10 * shorter);
        }
        new Sentence("promise 5: INDEX, n numbers are enough").leaf(0, "1").found("table(0, 2)", INDEX, 1)
            .leaf(0, "1 2").found("table(0, 2)", NULL, 10).due("table(0, 1)", 0);
    }

    /** One word in a leaf: a number, or a finding at place 0. */
    private static void words(String sentence, int lane, String... wordsAndDues) {
        Sentence one = new Sentence(sentence + ", lane " + lane).table("4").given("leaf(9, " + lane + ", 2)");
        long t = 1;
        for (int i = 0; i + 1 < wordsAndDues.length; i += 2) {
            one.due("put(9, " + lane + ", 0, " + wordsAndDues[i] + ")", 1);
            if (wordsAndDues[i + 1].equals("BROKEN")) {
                one.found("table(9, 1)", BROKEN, 0);
            } else if (wordsAndDues[i + 1].equals("GREAT")) {
                one.found("table(9, 1)", GREAT, 0);
            } else {
                one.due("table(9, 1)", t).number("at(" + t + ", 0, 0)", Long.parseLong(wordsAndDues[i + 1]));
                t++;
            }
        }
    }

    private static void tableBroken() {
        String broken = "promise 5: BROKEN, no whole number";
        words(broken, 2, "f:0.5", "BROKEN", "f:1", "1", "f:0.99999994", "BROKEN", "f:1.0000001", "BROKEN", "f:-0.5",
            "BROKEN", "f:-0.0", "0", "f:0", "0", "f:99.5", "BROKEN", "f:64", "64", "f:64.00001", "BROKEN", "0x1", "BROKEN",
            "0x007fffff", "BROKEN", "0x00800000", "BROKEN", "0x80000001", "BROKEN", "0x80000000", "0");
        words(broken, 3, "d:0.5", "BROKEN", "d:1", "1", "0x3fefffffffffffff", "BROKEN", "0x3ff0000000000001", "BROKEN",
            "d:-0.5", "BROKEN", "d:-0.0", "0", "d:0", "0", "d:-99.5", "BROKEN", "0xc04fffffffffffff", "BROKEN", "0x1",
            "BROKEN", "0x000fffffffffffff", "BROKEN", "0x0010000000000000", "BROKEN", "0x8000000000000001", "BROKEN");
        String endless = "terms 4: BROKEN, an endless one, too";
        words(endless, 2, "0x7f800000", "BROKEN", "0xff800000", "BROKEN", "0x7f7fffff", "GREAT", "0xff7fffff", "GREAT");
        words(endless, 3, "0x7ff0000000000000", "BROKEN", "0xfff0000000000000", "BROKEN", "0x7fefffffffffffff", "GREAT",
            "0xffefffffffffffff", "GREAT");
        String first = "promise 5: BROKEN ahead of GREAT";
        words(first, 2, "f:100.5", "BROKEN", "f:-1000.25", "BROKEN", "f:8388607.5", "BROKEN", "f:8388608", "GREAT",
            "f:8388607", "GREAT", "f:8388609", "GREAT");
        words(first, 3, "d:100.5", "BROKEN", "d:-1000.25", "BROKEN", "d:4503599627370495.5", "BROKEN",
            "d:4503599627370496", "GREAT", "d:4503599627370497", "GREAT", "d:9007199254740992", "GREAT");
    }

    private static void tableGreat() {
        String great = "terms 1: a size of 100 at most; promise 5: GREAT";
        words(great, 0, "100", "100", "101", "GREAT", "-100", "-100", "-101", "GREAT", "most", "GREAT", "least", "GREAT",
            "0x80000064", "GREAT");
        words(great, 1, "100", "100", "101", "GREAT", "-100", "-100", "-101", "GREAT", "9223372036854775807", "GREAT",
            "-9223372036854775808", "GREAT", "4294967296", "GREAT", "-4294967296", "GREAT", "4294967396", "GREAT");
        words(great, 2, "f:100", "100", "f:101", "GREAT", "f:-100", "-100", "f:-101", "GREAT", "f:127", "GREAT", "f:128",
            "GREAT", "f:1e30", "GREAT", "f:4294967296", "GREAT", "f:99", "99");
        words(great, 3, "d:100", "100", "d:101", "GREAT", "d:-100", "-100", "d:-101", "GREAT", "d:128", "GREAT",
            "d:-1e300", "GREAT", "d:4294967296", "GREAT", "d:18446744073709551616", "GREAT", "d:99", "99");
    }

    /** Twice each number, by the form of a NET of two things, is told with its sign. */
    private static void wholeNumbers() {
        for (int lane = 0; lane < 4; lane++) {
            String as = lane == 2 ? "f:" : lane == 3 ? "d:" : "";
            for (int least = -100; least <= 100; least += 50) {
                Sentence one = new Sentence("terms 1: whole numbers of a size of 100 at most, lane " + lane)
                    .table("0 1; 1 0")
                    .leaf(3, lane, as + "0 " + as + "1");
                for (int number = least; number < least + 50 && number <= 100; number++) {
                    one.given("put(3, " + lane + ", 0, " + as + number + ")").due("form(0, 3)", 2)
                        .number("sign(0)", Integer.signum(number)).number("word(0, 0)", 2 * Math.abs(number))
                        .number("word(1, 0)", number * number + 1);
                }
            }
        }
    }

    private static void tableUneven() {
        String[] rows = SIX.split("; ");
        for (int i = 0; i < 6; i++) {
            for (int k = 0; k < i; k++) {
                Sentence one = new Sentence("promise 5: UNEVEN, the least i, then k: " + i + " " + k).table("4");
                for (int j = 0; j < 6; j++) one.leaf(3 + j, rows[j]);
                // The places of the mirror come first.
                one.given("put(" + (3 + i) + ", 0, " + k + ", 77)").found("table(3, 6)", UNEVEN, 10 * k + i);
            }
        }
        new Sentence("promise 5: UNEVEN, the least i, then k").table("4").leaf(1, "1 2 3").leaf(2, "2 4 9")
            .leaf(3, "8 5 6").found("table(1, 3)", UNEVEN, 2).given("put(3, 0, 0, 3)").found("table(1, 3)", UNEVEN, 12)
            .given("put(1, 0, 1, 7)").found("table(1, 3)", UNEVEN, 1).given("put(1, 0, 1, 2)", "put(3, 0, 1, 9)")
            .due("table(1, 3)", 1).rows(1, "1 2 3; 2 4 9; 3 9 6").number("where()", 1);
    }

    private static void tablePlaceByPlace() {
        new Sentence("promise 5: row by row, place by place").table("4").leaf(3, 3, "d:1 d:0.5 d:101").leaf(4, "101 1")
            .found("table(3, 3)", BROKEN, 1).given("put(3, 3, 1, d:102)").found("table(3, 3)", GREAT, 1)
            .given("put(3, 3, 1, d:7)").found("table(3, 3)", GREAT, 2).given("put(3, 3, 2, d:Infinity)")
            .found("table(3, 3)", BROKEN, 2).given("put(3, 3, 2, d:8)").found("table(3, 3)", GREAT, 10)
            .given("put(4, 0, 0, 9)").found("table(3, 3)", INDEX, 12).leaf(4, "9 1 2").found("table(3, 3)", NULL, 20)
            .leaf(5, "").found("table(3, 3)", INDEX, 20).leaf(5, "5 5 101").found("table(3, 3)", GREAT, 22)
            .leaf(5, "5 5 5").found("table(3, 3)", UNEVEN, 1).leaf(4, "7 1 2").found("table(3, 3)", UNEVEN, 2)
            .leaf(5, "8 5 5").found("table(3, 3)", UNEVEN, 12).leaf(5, "8 2 5").due("table(3, 3)", 1);
        new Sentence("promise 5: a short row ahead of a LOST one, and a LOST one ahead of a short one").table("4")
            .leaf(3, "1").found("table(3, 2)", INDEX, 1).leaf(3, "1 2").found("table(3, 2)", NULL, 10)
            .given("lose(3)").leaf(4, "1").found("table(3, 2)", NULL, 0);
    }

    private static void tableMeeting() {
        new Sentence("promise 5: the first as told").table("3 1; 1 2").leaf(4, "1").leaf(5, 3, "d:0.5").leaf(6, "101")
            .each(OUTSIDE, "table(9, 0)", "table(9, 7)", "table(-1, 0)", "table(-1, 7)", "table(16, 0)", "table(12, 5)")
            .fill(60)
            .each(OUTSIDE, "table(0, 0)", "table(0, 7)", "table(-1, 1)", "table(16, 1)", "table(11, 6)")
            .each(FULL, "table(9, 1)", "table(4, 2)", "table(5, 1)", "table(6, 1)", "table(0, 3)", "table(10, 6)")
            .leaf(1, "5 5").due("table(0, 2)", FULL);
    }

    private static void where() {
        new Sentence("promise 6: WHERE, NONE at first; only a place that is told changes it").number("where()", -1)
            .table("3 1; 1 2").number("where()", -1).due("lose(9)", NULL).due("at(0, 2, 0)", INDEX)
            .due("table(0, 7)", OUTSIDE).number("where()", -1).found("table(8, 1)", NULL, 0).table("4")
            .number("where()", 0).found("table(0, 2)", INDEX, 1).due("lose(9)", NULL).due("at(0, 2, 0)", INDEX)
            .due("table(0, 7)", OUTSIDE).due("form(0, 16)", UNKNOWN).due("turn(0, 5, 0)", INDEX)
            .due("mix(0, 0, 1, 10)", GREAT).due("flow(0)", Sentence.UNFIT).number("where()", 1)
            .due("form(1, 0)", 2).number("where()", 1);
    }

    // ---- kinds

    private static void kind(String sentence, String rows, int kind) {
        Sentence one = new Sentence(sentence + ": " + rows).table(rows).number("kind(0)", kind);
        for (int other = TABLE; other <= FLOW; other++) {
            one.number("is(0, " + other + ")", other == kind || other == TABLE ? 1 : 0)
                .number("about(" + (2 + other) + ")", other == kind ? 1 : 0);
        }
    }

    private static void kinds() {
        String slant = "terms 1: SLANT, 0 where i is not k";
        kind(slant, "100", SLANT);
        kind(slant, "3 0; 0 4", SLANT);
        kind(slant, "3 1; 1 4", BAND);
        kind(slant, "3 0 0 0 0 0; 0 1 0 0 0 0; 0 0 2 0 0 0; 0 0 0 -4 0 0; 0 0 0 0 0 0; 0 0 0 0 0 9", SLANT);
        kind(slant, "3 0 0 0 0 1; 0 1 0 0 0 0; 0 0 2 0 0 0; 0 0 0 -4 0 0; 0 0 0 0 0 0; 1 0 0 0 0 9", TABLE);
        String band = "terms 1: BAND, 0 where i and k are not the same nor neighbours";
        kind(band, "3 1 0; 1 4 5; 0 5 6", BAND);
        kind(band, "3 1 1; 1 4 5; 1 5 6", TABLE);
        kind(band, "3 0 -1; 0 4 0; -1 0 6", TABLE);
        kind(band, "0 2; 2 0", BAND);
        kind(band, "0 0 0 0; 0 0 0 0; 0 0 0 -1; 0 0 -1 0", BAND);
        kind(band, "0 0 0 0; 0 0 0 2; 0 0 0 0; 0 2 0 0", TABLE);
        String net = "terms 1: NET, 0 and 1 alone, 0 where i is k";
        kind(net, "0 1; 1 0", NET);
        kind(net, "0 2; 2 0", BAND);
        kind(net, "0 -1; -1 0", BAND);
        kind(net, "1 1; 1 0", BAND);
        kind(net, "0 1; 1 1", BAND);
        kind(net, "0 0 1; 0 0 0; 1 0 0", NET);
        kind(net, "0 0 1; 0 0 0; 1 0 1", TABLE);
        kind(net, "0 1 2; 1 0 0; 2 0 0", TABLE);
        kind(net, "0 1 1; 1 0 1; 1 1 0", NET);
        kind(net, "0 1 1; 1 0 -1; 1 -1 0", TABLE);
    }

    private static void kindOrder() {
        String first = "terms 1: the first KIND that fits of SLANT, NET, BAND, TABLE";
        kind(first, "0", SLANT);
        kind(first, "1", SLANT);
        kind(first, "0 0; 0 0", SLANT);
        kind(first, "0 1 0; 1 0 1; 0 1 0", NET);
        kind(first, "0 1 0; 1 0 2; 0 2 0", BAND);
        kind(first, "0 1 2; 1 0 0; 2 0 0", TABLE);
    }

    private static void flowsAreMadeByFlow() {
        new Sentence("terms 1: FLOW, made of a NET by flow() alone").table("0 1; 1 0").due("flow(0)", 1)
            .number("kind(1)", FLOW).table("1 -1; -1 1").number("kind(2)", BAND).due("turn(1, 0, 0)", 3)
            .number("kind(3)", BAND).due("shift(1, 0)", 4).number("kind(4)", BAND).rows(4, "1 -1; -1 1")
            .due("mix(1, 0, 1, 0)", 5).number("kind(5)", BAND).number("about(6)", 1).number("is(3, 4)", 0)
            .number("is(3, 3)", 0).due("weave(1, 1)", 6).number("kind(6)", BAND).due("drop(1, 0)", 7)
            .number("kind(7)", SLANT)
            .table("0 1 1; 1 0 1; 1 1 0").due("flow(8)", 9).due("drop(9, 2)", 10).rows(10, "2 -1; -1 2")
            .number("kind(10)", BAND)
            .number("kind(9)", FLOW).number("about(6)", 2);
        new Sentence("terms 1: FLOW, a NET and a TABLE, too").table("0 1; 1 0").due("flow(0)", 1).number("is(1, 0)", 1)
            .number("is(1, 1)", 0).number("is(1, 2)", 0).number("is(1, 3)", 1).number("is(1, 4)", 1)
            .number("is(0, 4)", 0);
    }

    private static void unknown() {
        String[] calls = {"kind(?)", "size(?)", "is(?, 0)", "at(?, 0, 0)"};
        for (String call : calls) {
            Sentence one = new Sentence("promises 7 to 10: UNKNOWN, " + call).due(call.replace("?", "0"), UNKNOWN)
                .table("0").table("0");
            for (String t : new String[] {"-1", "2", "59", "60", "least", "most"}) {
                one.due(call.replace("?", t), UNKNOWN);
            }
            one.fill(60).due(call.replace("?", "60"), UNKNOWN).due(call.replace("?", "-1"), UNKNOWN)
                .number(call.replace("?", "0"), call.equals("at(?, 0, 0)") ? 0 : 1)
                .number(call.replace("?", "59"), call.equals("at(?, 0, 0)") ? 0 : 1);
        }
    }

    private static void is() {
        new Sentence("promise 9: OUTSIDE: no KIND").table("0 1; 1 0").given("flow(0)")
            .each(OUTSIDE, "is(0, -1)", "is(0, 5)", "is(0, least)", "is(0, most)", "is(1, 5)").number("is(0, 0)", 1)
            .number("is(0, 4)", 0).number("is(1, 4)", 1);
        new Sentence("promise 9: the first as told").table("0").each(UNKNOWN, "is(1, 5)", "is(-1, -1)");
    }

    private static void at() {
        new Sentence("promise 10: INDEX").table("5 6; 6 7").table("9")
            .each(INDEX, "at(0, -1, 0)", "at(0, 0, -1)", "at(0, 2, 0)", "at(0, 0, 2)", "at(0, least, 0)",
                "at(0, 0, least)", "at(0, most, 0)", "at(0, 1, most)", "at(1, 1, 0)", "at(1, 0, 1)", "at(0, 6, 0)",
                "at(0, 0, 6)")
            .number("at(0, 0, 0)", 5).number("at(0, 1, 1)", 7).number("at(0, 1, 0)", 6).number("at(1, 0, 0)", 9);
        new Sentence("promise 10: the first as told").table("5").each(UNKNOWN, "at(1, 1, 0)", "at(-1, 0, -1)");
        new Sentence("promise 10: a number of -10 less 2 is told so, too").table("-12 -100; -100 -11")
            .number("at(0, 0, 0)", -12).number("at(0, 1, 1)", -11).number("finding()", 0).number("findings(2)", 0)
            .due("at(0, 2, 0)", INDEX).number("at(0, 0, 0)", -12).number("findings(2)", 1).number("at(0, 0, 1)", -100);
    }
}
