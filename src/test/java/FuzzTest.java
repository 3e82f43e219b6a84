import java.util.Random;

/** All promises: long runs of chosen calls, each held against the model. The seeds are fixed. */
public final class FuzzTest {
    private static final long[] EDGES = {
        0, 1, -1, 2, 5, 6, 7, 8, 9, 10, 15, 16, 20, 21, 48, 60, 100, 101, -100, -101, 200, 201, -200, -201,
        1000, 1001, 1000000, 1000001, -1000000, -1000001, Integer.MAX_VALUE, Integer.MIN_VALUE
    };
    private static final long[] WORDS = {
        Long.MIN_VALUE, Long.MAX_VALUE, 0x7f800000L, 0xff800000L, 0x7fc00000L, 0x7f800001L, 0xffffffffL, 1L << 32,
        0x100000005L, 0x80000000L, 0x7ff0000000000000L, 0xfff0000000000000L, 0x7ff0000000000001L, 0x7ff8000000000000L,
        0x8000000000000000L, 1L, 0x3fe0000000000000L, 0x3fffffffffffffffL, 0x4059000000000000L, 0x4059000000000001L,
        0x4059400000000000L, 0xc059000000000000L, 0xc059400000000000L, 0x42c80000L, 0x42c80001L, 0x42ca0000L,
        0xc2c80000L, 0x4b000000L, 0x4b000001L, 0x7f7fffffL, 0x00000001L, 0x007fffffL, 0x433fffffffffffffL,
        0x4340000000000001L, 0x7fefffffffffffffL, 0x000fffffffffffffL, 0x3f000000L, 0x3f800000L, 0x3f800001L
    };
    private final Random random;
    private final Due due;
    private TableBench x;
    private Model y;

    private FuzzTest(long seed, Due due) {
        random = new Random(seed);
        this.due = due;
    }

    public static void main(String[] args) {
        Due due = new Due();
        int runs = args.length > 0 ? Integer.parseInt(args[0]) : 400;
        int from = args.length > 1 ? Integer.parseInt(args[1]) : 0;
        for (int seed = from; seed < from + runs; seed++) {
            due.part("fuzz " + seed);
            new FuzzTest(seed, due).run();
        }
        due.end();
    }

    private void run() {
        x = new TableBench();
        y = new Model();
        int style = random.nextInt(6);
        for (int step = 0; step < 60; step++) {
            if (random.nextInt(4) == 0) {
                make(style);
            } else {
                call(random.nextInt(39));
            }
            state();
        }
    }

    private int near(int bound) {
        if (random.nextInt(25) == 0) {
            return (int) EDGES[random.nextInt(EDGES.length)];
        }
        return random.nextInt(20) == 0 ? bound : random.nextInt(Math.max(bound, 1));
    }

    private int t() {
        return near(y.tables.size());
    }

    private int i(int t) {
        return near(y.at(t) == null ? 6 : y.size(t));
    }

    private int number(int style, int i, int k) {
        switch (style) {
            case 0: return i == k ? 0 : random.nextInt(2);
            case 1: return random.nextInt(5) - 2;
            case 2: return random.nextInt(201) - 100;
            case 3: return random.nextInt(3) == 0 ? random.nextInt(21) - 10 : 0;
            // Small parts side by side: whole own values with others close behind them.
            case 4: return i / 2 == k / 2 ? random.nextInt(4) - 1 : 0;
            default: return i == k ? 100 * (random.nextInt(3) - 1) : 100 - 200 * random.nextInt(2);
        }
    }

    private static long word(int lane, int number) {
        switch (lane) {
            case 2: return Float.floatToRawIntBits(number);
            case 3: return Double.doubleToRawLongBits(number);
            default: return number;
        }
    }

    private void make(int style) {
        int n = 1 + random.nextInt(6);
        int first = random.nextInt(17 - n);
        int[][] m = new int[n][n];
        for (int i = 0; i < n; i++) {
            for (int k = 0; k <= i; k++) {
                m[i][k] = number(style, i, k);
                m[k][i] = m[i][k];
            }
        }
        for (int i = 0; i < n; i++) {
            int lane = random.nextInt(4);
            leaf(first + i, lane, n + random.nextInt(2));
            for (int k = 0; k < n; k++) {
                put(first + i, lane, k, word(lane, m[i][k]));
            }
            if (random.nextInt(80) == 0) {
                put(first + i, lane, random.nextInt(n), WORDS[random.nextInt(WORDS.length)]);
            }
        }
        due.is("table(" + first + ", " + n + ")", x.table(first, n), y.table(first, n));
    }

    private void leaf(int l, int lane, int n) {
        due.is("leaf(" + l + ", " + lane + ", " + n + ")", x.leaf(l, lane, n), y.leaf(l, lane, n));
    }

    private void put(int l, int lane, int i, long word) {
        String call = "put(" + l + ", " + lane + ", " + i + ", " + word + ")";
        due.is(call, x.put(l, lane, i, word), y.put(l, lane, i, word));
    }

    private void call(int which) {
        int t = t(), u = t(), i = i(t), k = i(t), n;
        String at = "(" + t + ", " + i + ", " + k + ")";
        switch (which) {
            case 0: leaf(near(16), near(4), near(9) - (random.nextInt(20) == 0 ? 20 : 0)); break;
            case 1: case 2: n = near(16);
                put(n, random.nextInt(3) > 0 && n >= 0 && n < 16 ? y.lanes[n] : near(4), near(8),
                    random.nextInt(3) > 0 ? WORDS[random.nextInt(WORDS.length)] : random.nextInt(220) - 110); break;
            case 3: n = near(16); due.is("lose(" + n + ")", x.lose(n), y.lose(n)); break;
            case 4: n = near(7); due.is("table(" + i + ", " + n + ")", x.table(i, n), y.table(i, n)); break;
            case 5: due.is("kind(" + t + ")", x.kind(t), y.kind(t)); break;
            case 6: due.is("size(" + t + ")", x.size(t), y.size(t)); break;
            case 7: n = near(5); due.is("is(" + t + ", " + n + ")", x.is(t, n), y.is(t, n)); break;
            case 8: due.is("at" + at, x.at(t, i, k), y.at(t, i, k)); break;
            case 9: due.is("flow(" + t + ")", x.flow(t), y.flow(t)); break;
            case 10: due.is("turn" + at, x.turn(t, i, k), y.turn(t, i, k)); break;
            case 11: n = near(21) - 10; due.is("mix" + at + n, x.mix(t, i, k, n), y.mix(t, i, k, n)); break;
            case 12: n = near(401) - 200; due.is("shift(" + t + ", " + n + ")", x.shift(t, n), y.shift(t, n)); break;
            case 13: n = near(9) - 4; due.is("shift(" + t + ", " + n + ")", x.shift(t, n), y.shift(t, n)); break;
            case 14: due.is("drop(" + t + ", " + i + ")", x.drop(t, i), y.drop(t, i)); break;
            case 15: u = random.nextInt(3) == 0 ? t : u;
                due.is("weave(" + t + ", " + u + ")", x.weave(t, u), y.weave(t, u)); break;
            case 16: case 17: due.is("line" + at, x.line(t, i, k), y.line(t, i, k)); break;
            case 18: due.is("bound(" + t + ")", x.bound(t), y.bound(t)); break;
            case 19: due.is("trace(" + i + ")", x.trace(i), y.trace(i)); break;
            case 20: due.is("poly(" + t + ")", x.poly(t), y.poly(t)); break;
            case 21: due.is("worth(" + t + ")", x.worth(t), y.worth(t)); break;
            case 22: due.is("ring(" + t + ")", x.ring(t), y.ring(t)); break;
            case 23: n = near(7); due.is("often(" + t + ", " + n + ")", x.often(t, n), y.often(t, n)); break;
            case 24: case 25: case 26: count(t); break;
            // Broad parts more often: several own values lie in one of them.
            case 27: case 28: case 29: n = near(random.nextBoolean() ? 3 : 21);
                due.is("shut" + at + n, x.shut(t, i, n), y.shut(t, i, n)); break;
            case 30: due.is("same(" + t + ", " + u + ")", x.same(t, u), y.same(t, u)); break;
            default: rest(which, t);
        }
    }

    private void rest(int which, int t) {
        int n;
        switch (which) {
            case 31: due.is("bend(" + t + ")", x.bend(t), y.bend(t)); break;
            case 32: due.is("signs(" + t + ")", x.signs(t), y.signs(t)); break;
            case 33: due.is("show(" + t + ")", x.show(t), y.show(t)); break;
            case 34: n = near(16); due.is("form(" + t + ", " + n + ")", x.form(t, n), y.form(t, n)); break;
            case 35: n = near(21); due.is("walks(" + t + ", " + n + ")", x.walks(t, n), y.walks(t, n)); break;
            case 36: due.is("pieces(" + t + ")", x.pieces(t), y.pieces(t)); break;
            case 37: due.is("two(" + t + ")", x.two(t), y.two(t)); break;
            default: due.is("trees(" + t + ")", x.trees(t), y.trees(t));
        }
    }

    private void count(int t) {
        int what = near(6), a, b;
        if (random.nextInt(2) == 0) {
            a = random.nextInt(41) - 20;
            b = 1 + random.nextInt(3);
        } else {
            a = random.nextInt(2000001) - 1000000;
            b = near(1000) + 1;
        }
        due.is("count(" + t + ", " + what + ", " + a + ", " + b + ")", x.count(t, what, a, b), y.count(t, what, a, b));
    }

    private void state() {
        due.is("where()", x.where(), y.where);
        due.is("seen()", x.seen(), y.seen);
        due.is("finding()", x.finding(), y.latest);
        due.is("results()", x.results(), y.result.size());
        due.is("digest()", x.digest(), y.digest());
        int n = near(9);
        due.is("findings(" + n + ")", x.findings(n), y.findings(n));
        n = near(7);
        due.is("about(" + n + ")", x.about(n), y.about(n));
        n = near(4);
        due.is("trace(" + n + ")", x.trace(n), y.trace(n));
        for (int j = 0; j < 3; j++) {
            int i = near(y.result.size()), k = near(4);
            due.is("sign(" + i + ")", x.sign(i), y.sign(i));
            due.is("bits(" + i + ")", x.bits(i), y.bits(i));
            due.is("word(" + i + ", " + k + ")", x.word(i, k), y.word(i, k));
        }
    }
}
