import java.util.LinkedHashMap;
import java.util.List;
import java.util.Map;

/**
 * All that an object tells which has certain calls behind it: each call by its text, ahead of it marks of what may change
 * its answer. It is told in parts, by an object each, as one may be asked but 512 calls.
 */
final class Look {
    /** So many calls behind an object leave enough for every part. */
    static final int ROOM = 200;
    static final String LEAVES = "LEAVES ", TABLES = "TABLES ", RESULT = "RESULT ", TRACE = "TRACE ", SEEN = "SEEN ";
    private static final int MOST_OF_TABLES = 250;
    private final Map<String, Long> all = new LinkedHashMap<>();
    private Asked one;

    private Look() {
    }

    static Map<String, Long> behind(List<String> calls) {
        Look look = new Look();
        look.one = Asked.after(calls);
        look.atTold();
        look.one = Asked.after(calls);
        look.atResult();
        look.one = Asked.after(calls);
        look.atTables();
        look.one = Asked.after(calls);
        look.atLeaves();
        look.one = Asked.after(calls);
        look.atNext();
        return look.all;
    }

    /** The mark of what a call may change that is neither refused nor has a finding; none: it changes nothing. */
    static String changedBy(String call) {
        switch (call.substring(0, call.indexOf('('))) {
            case "leaf": case "put": case "lose": return LEAVES;
            case "table": case "flow": case "turn": case "mix": case "shift": case "drop": case "weave": case "line":
                return TABLES;
            case "poly": case "worth": case "ring": case "bend": case "show": case "form": case "walks": case "trees":
                return RESULT;
            case "bound": return TRACE;
            case "shut": return SEEN;
            default: return "";
        }
    }

    private long see(String marks, String call) {
        long got = one.ask(call);
        all.put(marks + call, got);
        return got;
    }

    private void atTold() {
        for (int k = 0; k < 4; k++) see(TRACE, "trace(" + k + ")");
        see(SEEN, "seen()");
        see("", "where()");
        see("", "finding()");
        see(RESULT, "results()");
        see(LEAVES + TABLES + RESULT, "digest()");
        for (int f = 1; f <= 8; f++) see("", "findings(" + f + ")");
        for (int what = 0; what <= 6; what++) see(what == 1 ? LEAVES : TABLES, "about(" + what + ")");
    }

    private void atResult() {
        long many = one.ask("results()");
        for (int i = 0; i < many; i++) {
            see(RESULT, "sign(" + i + ")");
            see(RESULT, "bits(" + i + ")");
            for (int k = 0; k < 3; k++) see(RESULT, "word(" + i + ", " + k + ")");
        }
    }

    /** A table stays as it is, whatever is made behind it: no mark. The digest tells of those that are left out. */
    private void atTables() {
        long many = one.ask("about(0)");
        int before = all.size();
        for (long t = 0; t < many && all.size() - before < MOST_OF_TABLES; t++) atTable("", t);
    }

    private void atTable(String marks, long t) {
        see(marks, "kind(" + t + ")");
        long n = see(marks, "size(" + t + ")");
        for (int i = 0; i < n; i++) {
            for (int k = 0; k < n; k++) see(marks, "at(" + t + ", " + i + ", " + k + ")");
        }
    }

    /** Lanes by what can't be put; numbers by the forms of the first table and the last. */
    private void atLeaves() {
        long many = one.ask("about(0)");
        for (int l = 0; l < 16; l++) {
            for (int lane = 0; lane < 4; lane++) see(LEAVES, "put(" + l + ", " + lane + ", 8, 0)");
            for (long t = 0; t < many; t++) {
                if (t == 0 || t == many - 1) atForm("form(" + t + ", " + l + ")");
            }
        }
    }

    private void atForm(String form) {
        String marks = LEAVES + TABLES;
        if (see(marks, form) < 0) {
            all.put(marks + "place of " + form, one.ask("where()"));
        } else {
            all.put(marks + "first of " + form, one.ask("sign(0)") * one.ask("word(0, 0)"));
            all.put(marks + "second of " + form, one.ask("word(1, 0)"));
        }
    }

    /** The tables that would be made next; weave() leaves numbers 0 that it doesn't write. */
    private void atNext() {
        for (String call : List.of("weave(0, 0)", "turn(0, 0, 0)")) {
            long next = see(TABLES, call);
            if (next >= 0) atTable(TABLES, next);
        }
    }
}
