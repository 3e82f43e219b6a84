/** Promises 28 to 31 and the terms on the WAY, sentence by sentence, at the boundaries that they name. */
public final class FormEdgesTest {
    private static final int NULL = Sentence.NULL, INDEX = Sentence.INDEX, BROKEN = Sentence.BROKEN;
    private static final int GREAT = Sentence.GREAT, UNKNOWN = Sentence.UNKNOWN, NONE = Sentence.NONE;
    private static final String FULL_OF_100 = "100 100 100 100 100 100; 100 100 100 100 100 100; "
        + "100 100 100 100 100 100; 100 100 100 100 100 100; 100 100 100 100 100 100; 100 100 100 100 100 100";
    private static final String GREAT_WAY = "-95 95 94 -97 -89 92; 95 -90 100 -98 -90 95; 94 100 -95 -97 -92 -93; "
        + "-97 -98 -97 94 -96 89; -89 -90 -92 -96 100 100; 92 95 -93 89 100 96";

    public static void main(String[] args) {
        unknown();
        placeChange();
        rowAdded();
        nothingDone();
        divided();
        great();
        signs();
        show();
        formPlaces();
        formNumbers();
        formPlaceByPlace();
        formMeeting();
        Sentence.end();
    }

    private static void unknown() {
        for (String call : new String[] {"bend(?)", "signs(?)", "show(?)", "form(?, 0)"}) {
            Sentence one = new Sentence("promises 28 to 31: UNKNOWN, " + call).due(call.replace("?", "0"), UNKNOWN)
                .table("2 1; 1 2").table("-5").given("bend(0)");
            for (String t : new String[] {"-1", "2", "59", "60", "least", "most"}) {
                one.due(call.replace("?", t), UNKNOWN);
            }
            one.result("2 6 1 0 -1 2").fill(60).due(call.replace("?", "60"), UNKNOWN);
        }
        new Sentence("promises 28 to 31: the first TABLE and the last").table("-5").fill(60).due("bend(0)", 2)
            .due("bend(59)", 2)
            .result("-5 1").due("signs(0)", 1).due("signs(59)", 1).due("show(0)", 1).due("show(59)", 1).result("1")
            .due("form(0, 0)", 2).due("form(59, 0)", 2).result("-125 25");
    }

    /** Numbers d, rows, signs and the row that is shown (none: ""). */
    private static void way(String words, String rows, String d, String way, int signs, String shown) {
        String flat = d + " " + way.replace("; ", " ");
        int n = d.split(" ").length;
        new Sentence("terms 2: " + words).table(rows).number("bend(0)", n + n * n).result(flat)
            .number("signs(0)", signs).number("results()", n + n * n).number("show(0)", shown.isEmpty() ? NONE : n)
            .result(shown.isEmpty() ? flat : shown).rows(0, rows);
    }

    private static void placeChange() {
        String least = "B (i, i) is 0: the least k above i for which B (k, k) is not 0: they change places";
        way(least, "0 0 0; 0 2 0; 0 0 3", "2 3 0", "0 1 0; 0 0 1; 1 0 0", 210, "1 0 0");
        way(least, "0 0 0; 0 0 0; 0 0 3", "3 0 0", "0 0 1; 0 1 0; 1 0 0", 120, "0 1 0");
        way(least, "0 1 0; 1 0 0; 0 0 3", "3 2 -2", "0 0 1; 1 1 0; 1 -1 0", 201, "1 -1 0");
        way(least, "0 3; 3 5", "5 -45", "0 1; 5 -3", 101, "5 -3");
        way("no place is changed where B (i, i) is not 0", "-1 0; 0 5", "-1 5", "1 0; 0 1", 101, "1 0");
    }

    private static void rowAdded() {
        String least = "the least k above i for which B (i, k) is not 0: ROW k is added to ROW i";
        way(least, "0 1; 1 0", "2 -2", "1 1; -1 1", 101, "-1 1");
        way(least, "0 0 2; 0 0 0; 2 0 0", "4 -4 0", "1 0 1; -1 0 1; 0 1 0", 111, "-1 0 1");
        way(least, "0 -1 5; -1 0 0; 5 0 0", "-2 2 0", "1 1 0; 1 -1 0; 0 -5 -1", 111, "1 1 0");
        way(least, "0 0 0; 0 0 -3; 0 -3 0", "0 -6 6", "1 0 0; 0 1 1; 0 1 -1", 111, "1 0 0");
    }

    private static void nothingDone() {
        String none = "if there is none: nothing is done for this i";
        way(none, "0", "0", "1", 10, "1");
        way(none, "0 0; 0 0", "0 0", "1 0; 0 1", 20, "1 0");
        way(none, "1 0 0; 0 0 0; 0 0 0", "1 0 0", "1 0 0; 0 1 0; 0 0 1", 120, "0 1 0");
        way(none, "1 1; 1 1", "1 0", "1 0; -1 1", 110, "-1 1");
        way(none, FULL_OF_100, "100 0 0 0 0 0", "1 0 0 0 0 0; -1 1 0 0 0 0; -1 0 1 0 0 0; -1 0 0 1 0 0; -1 0 0 0 1 0; "
            + "-1 0 0 0 0 1", 150, "-1 1 0 0 0 0");
    }

    private static void divided() {
        String both = "g the greatest number that goes into both";
        way(both, "4 6; 6 20", "4 44", "1 0; -3 2", 200, "");
        way(both, "-4 6; 6 -20", "-4 -44", "1 0; -3 -2", 2, "1 0");
        way(both, "-4 -6; -6 -20", "-4 -44", "1 0; 3 -2", 2, "1 0");
        way(both, "4 -6; -6 20", "4 44", "1 0; 3 2", 200, "");
        way(both, "6 3; 3 6", "6 18", "1 0; -1 2", 200, "");
        way(both, "-1 3; 3 6", "-1 15", "1 0; -3 -1", 101, "1 0");
        way("c is 0: the ROW stays", "-3 0; 0 -7", "-3 -7", "1 0; 0 1", 2, "1 0");
        way("is divided by the greatest number that goes into all of its numbers", "2 0 1; 0 2 1; 1 1 2", "2 2 4",
            "1 0 0; 0 1 0; -1 -1 2", 300, "");
    }

    /** The number of 86 bits is told by three words; the rows of the way as well as the numbers d are great. */
    private static void great() {
        way("numbers of any size", GREAT_WAY,
            "-95 5 -67950935 -2454041082953265 251524119316161706386 42149127860639321392034730",
            "1 0 0 0 0 0; -1 -1 0 0 0 0; 3592 3686 -95 0 0 0; 3407120 3593457 3502185 3576365 0 0; "
                + "620601232 655141563 648824814 1292176870 -686183061 0; "
                + "-239641648178 -246989317781 114294549506 -147409834320 -105378489457 -366555418826",
            303, "1 0 0 0 0 0");
    }

    private static void signs() {
        new Sentence("promise 29: above 0, times 100; 0, times 10; below 0")
            .table("1 0 0 0 0 0; 0 2 0 0 0 0; 0 0 3 0 0 0; "
            + "0 0 0 4 0 0; 0 0 0 0 5 0; 0 0 0 0 0 6")
                .given("shift(0, -1)", "shift(0, -3)", "shift(0, -6)", "shift(0, -7)",
                "shift(0, -100)").due("signs(0)", 600).due("signs(1)", 510).due("signs(2)", 312).due("signs(3)", 15)
            .due("signs(4)", 6).due("signs(5)", 6).table("0").due("signs(6)", 10);
    }

    private static void show() {
        new Sentence("promise 30: the first ROW whose d is not above 0; NONE: all are (THE RESULT stays)")
            .table("1 0; 0 1")
            .table("1 0; 0 0").table("1 0; 0 -1").table("0 0; 0 0").table("5").number("show(0)", NONE)
            .number("results()", 0)
            .given("poly(0)").number("show(0)", NONE).result("1 -2 1").number("show(4)", NONE).result("1 -2 1")
            .number("show(1)", 2).result("0 1").number("show(0)", NONE).result("0 1").number("show(2)", 2).result("0 1")
            .number("show(3)", 2).result("1 0").number("finding()", 0);
    }

    // ---- form

    private static void formPlaces() {
        new Sentence("promise 31: UNKNOWN: t, l").table("2 1; 1 2").leaf(15, "1 1").leaf(0, "1 -1").given("poly(0)")
            .each(UNKNOWN, "form(0, -1)", "form(0, 16)", "form(0, least)", "form(0, most)", "form(1, 0)", "form(-1, 15)",
                "form(1, 16)", "form(-1, -1)")
            .due("form(0, 0)", 2).result("2 2").due("form(0, 15)", 2).result("6 2");
        new Sentence("promise 31: NULL, of NULL 0").table("2 1; 1 2").leaf(3, "1").found("form(0, 3)", INDEX, 1)
            .found("form(0, 2)", NULL, 0).found("form(0, 3)", INDEX, 1).given("lose(3)").found("form(0, 3)", NULL, 0);
        new Sentence("promise 31: INDEX, as many as the SIZE").table("2 1; 1 2").table("3").leaf(4, "")
            .found("form(0, 4)", INDEX, 0).found("form(1, 4)", INDEX, 0).leaf(4, "7").found("form(0, 4)", INDEX, 1)
            .due("form(1, 4)", 2).result("147 49").leaf(4, "7 1").due("form(0, 4)", 2).result("114 50")
            .leaf(4, "7 1 101 102").due("form(0, 4)", 2).result("114 50").due("form(1, 4)", 2).result("147 49");
        Sentence six = new Sentence("promise 31: INDEX, of six").table(FULL_OF_100).leaf(8, "1 1 1 1 1");
        six.found("form(0, 8)", INDEX, 5).leaf(8, "1 1 1 1 1 1").due("form(0, 8)", 2).result("3600 6");
    }

    private static void formNumbers() {
        new Sentence("promise 31: x times T times x, and x times x, the greatest").table(FULL_OF_100)
            .leaf(0, "100 100 100 100 100 100").due("form(0, 0)", 2).result("36000000 60000")
            .leaf(0, 3, "d:-100 d:-100 d:-100 d:-100 d:-100 d:-100").due("form(0, 0)", 2).result("36000000 60000")
            .leaf(0, 2, "f:-100 f:100 f:-100 f:100 f:-100 f:100").due("form(0, 0)", 2).result("0 60000")
            .leaf(0, 1, "0 0 0 0 0 0").due("form(0, 0)", 2).result("0 0").table("-100").leaf(0, "100")
            .due("form(1, 0)", 2)
            .result("-1000000 10000");
        for (int lane = 0; lane < 4; lane++) {
            String as = lane == 2 ? "f:" : lane == 3 ? "d:" : "";
            new Sentence("promise 31: GREAT, lane " + lane).table("1 0; 0 2").leaf(3, lane, as + "100 " + as + "-100")
                .due("form(0, 3)", 2).result("30000 20000").leaf(3, lane, as + "101 " + as + "-100")
                .found("form(0, 3)", GREAT, 0).leaf(3, lane, as + "100 " + as + "-101").found("form(0, 3)", GREAT, 1)
                .result("30000 20000");
        }
        new Sentence("promise 31: BROKEN").table("1 0; 0 2").leaf(3, 3, "d:0.5 d:1").leaf(4, 2, "f:1 f:0.5")
            .leaf(5, 3, "d:1 d:Infinity").leaf(6, 2, "f:-Infinity f:1").leaf(7, 3, "d:-0.0 d:1")
            .leaf(8, 2, "f:1 f:-0.0")
            .leaf(9, 3, "d:100.5 d:1").leaf(10, 2, "f:1 f:-1000.5")
            .found("form(0, 3)", BROKEN, 0).found("form(0, 4)", BROKEN, 1).found("form(0, 5)", BROKEN, 1)
            .found("form(0, 6)", BROKEN, 0).found("form(0, 9)", BROKEN, 0).found("form(0, 10)", BROKEN, 1)
            .due("form(0, 7)", 2).result("2 1").due("form(0, 8)", 2).result("1 1");
    }

    private static void formPlaceByPlace() {
        new Sentence("promise 31: place by place").table("1 0 0; 0 2 0; 0 0 3").leaf(3, 3, "d:101 d:0.5")
            .found("form(0, 3)", GREAT, 0).given("put(3, 3, 0, d:0.5)", "put(3, 3, 1, d:101)")
            .found("form(0, 3)", BROKEN, 0)
            .given("put(3, 3, 0, d:4)").found("form(0, 3)", GREAT, 1).given("put(3, 3, 1, d:Infinity)")
            .found("form(0, 3)", BROKEN, 1).given("put(3, 3, 1, d:5)").found("form(0, 3)", INDEX, 2)
            .leaf(3, 3, "d:4 d:5 d:-101").found("form(0, 3)", GREAT, 2).leaf(3, 3, "d:4 d:5 d:6 d:0.5")
            .due("form(0, 3)", 2)
            .result("174 77");
    }

    private static void formMeeting() {
        new Sentence("promise 31: the first as told").table("1 0; 0 2").leaf(3, 3, "d:0.5").leaf(4, "101")
            .each(UNKNOWN, "form(1, 9)", "form(0, 16)", "form(1, 3)", "form(-1, 4)", "form(1, 16)")
            .found("form(0, 9)", NULL, 0).found("form(0, 3)", BROKEN, 0).found("form(0, 4)", GREAT, 0);
        new Sentence("promise 31: no FULL").table("3").fill(60).due("form(0, 0)", 2).result("27 9")
            .found("form(0, 5)", NULL, 0);
    }
}
