import java.math.BigInteger;
import java.util.ArrayList;
import java.util.List;
import java.util.Map;

/**
 * A sentence of the document, tested by calls on a new object. About every call that is due, all that an object tells is
 * held against what it told before: nothing may have changed but what the document lets that call change.
 */
final class Sentence {
    static final int NONE = -1, UNKNOWN = -101, OUTSIDE = -102, STATE = -103, FULL = -104;
    static final int NULL = -11, INDEX = -12, CAST = -13, SIZE = -14;
    static final int BROKEN = -15, GREAT = -16, UNEVEN = -17, UNFIT = -18;
    private static final Due DUE = new Due();
    // With these behind it there are a TRACE, SEEN and a RESULT that a call could change.
    private static final List<String> STIR = List.of("shut(0, 0, 3)", "bend(0)", "bound(0)");
    private final List<String> calls = new ArrayList<>();
    private final Asked x = new Asked();
    private Map<String, Long> plain;
    private Map<String, Long> stirred;

    Sentence(String words) {
        DUE.part(words);
    }

    static void end() {
        DUE.end();
    }

    // ---- what is given

    Sentence given(String... some) {
        for (String call : some) ask(call);
        return this;
    }

    /** A leaf of numbers, as "1 -2 3"; lane 0. */
    Sentence leaf(int l, String numbers) {
        return leaf(l, 0, numbers);
    }

    /** A leaf whose numbers are told as words of a lane, as "d:1 d:0.5". */
    Sentence leaf(int l, int lane, String words) {
        String[] parts = words.isEmpty() ? new String[0] : words.split(" ");
        ask("leaf(" + l + ", " + lane + ", " + parts.length + ")");
        for (int i = 0; i < parts.length; i++) {
            if (!parts[i].equals("0")) ask("put(" + l + ", " + lane + ", " + i + ", " + parts[i] + ")");
        }
        return this;
    }

    /** A table in rows, as "1 2; 2 1", by the leaves from 0 on. */
    Sentence table(String rows) {
        String[] parts = rows.split("; ");
        for (int i = 0; i < parts.length; i++) leaf(i, parts[i]);
        return due("table(0, " + parts.length + ")", ask("about(0)"));
    }

    /** Takes tables like table 0 on until there are so many. */
    Sentence fill(int tables) {
        for (long t = ask("about(0)"); t < tables; t++) DUE.is("fill", ask("shift(0, 0)"), t);
        return this;
    }

    // ---- what is due

    /** A refusal, a finding that leaves where() alone, or another answer. */
    Sentence due(String call, long want) {
        boolean finding = want <= NULL && want >= UNFIT;
        boolean refusal = want <= UNKNOWN && want >= FULL;
        return judge(call, want, finding || refusal, finding ? -10 - want : 0, null);
    }

    /** Each of these calls. */
    Sentence each(long want, String... some) {
        for (String call : some) due(call, want);
        return this;
    }

    /** A finding that tells its place. */
    Sentence found(String call, long want, long place) {
        return judge(call, want, true, -10 - want, place);
    }

    /** An answer that is a number, though it may be one that tells a refusal elsewhere. */
    Sentence number(String call, long want) {
        return judge(call, want, false, 0, null);
    }

    Sentence result(String want) {
        StringBuilder text = new StringBuilder();
        long many = ask("results()");
        for (int i = 0; i < many; i++) text.append(i == 0 ? "" : " ").append(inResult(i));
        DUE.says("the result", text.toString(), want);
        return this;
    }

    private BigInteger inResult(int i) {
        BigInteger size = BigInteger.ZERO;
        for (int k = 3; k >= 0; k--) {
            size = size.shiftLeft(32).or(BigInteger.valueOf(ask("word(" + i + ", " + k + ")")));
        }
        return size.multiply(BigInteger.valueOf(ask("sign(" + i + ")")));
    }

    Sentence rows(int t, String want) {
        StringBuilder text = new StringBuilder();
        long n = ask("size(" + t + ")");
        for (int i = 0; i < n; i++) {
            for (int k = 0; k < n; k++) {
                text.append(k > 0 ? " " : i > 0 ? "; " : "").append(ask("at(" + t + ", " + i + ", " + k + ")"));
            }
        }
        DUE.says("rows of " + t, text.toString(), want);
        return this;
    }

    private long ask(String call) {
        plain = null;
        stirred = null;
        calls.add(call);
        return x.ask(call);
    }

    // ---- what has changed

    /** The answer, and that nothing has changed but what may: of a refused call the latest finding and its place. */
    private Sentence judge(String call, long want, boolean refused, long finding, Long place) {
        boolean looks = refused || calls.size() <= Look.ROOM;
        List<String> ahead = new ArrayList<>(calls);
        if (looks && plain == null) plain = Look.behind(ahead);
        // Stirred, there is more that a call could change.
        List<String> aheadStirred = new ArrayList<>(calls);
        if (looks && plain.get(Look.TABLES + "about(0)") > 0) aheadStirred.addAll(STIR);
        if (looks && stirred == null) stirred = Look.behind(aheadStirred);
        Map<String, Long> before = plain, beforeStirred = stirred;
        DUE.is(call, ask(call), want);
        if (looks) {
            String part = refused ? "" : Look.changedBy(call);
            if (finding > 0) {
                told(before, finding, place);
                told(beforeStirred, finding, place);
            }
            Map<String, Long> behind = changed(ahead, call, before, part);
            Map<String, Long> behindStirred = changed(aheadStirred, call, beforeStirred, part);
            if (part.isEmpty() && !call.startsWith("bound")) {
                plain = behind;
                stirred = behindStirred;
            }
        }
        return this;
    }

    private static void told(Map<String, Long> due, long finding, Long place) {
        due.put("finding()", finding);
        due.merge("findings(" + finding + ")", 1L, Long::sum);
        if (place != null) due.put("where()", place);
    }

    /** What is told behind a call; all but the part that it may change is due as before. */
    private static Map<String, Long> changed(List<String> ahead, String call, Map<String, Long> before, String part) {
        List<String> all = new ArrayList<>(ahead);
        all.add(call);
        Map<String, Long> got = Look.behind(all);
        for (String one : before.keySet()) {
            boolean emptied = part.isEmpty() && call.startsWith("bound") && one.startsWith(Look.TRACE);
            if (part.isEmpty() || !one.contains(part)) {
                DUE.is(one + " behind " + call, got.getOrDefault(one, Long.MIN_VALUE), emptied ? NONE : before.get(one));
            }
        }
        return got;
    }
}
