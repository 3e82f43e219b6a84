/** A bench for whole tables that are the same both ways about, and for what belongs to them; all of it exact. */
public final class TableBench {
    public static final int NONE = -1, UNKNOWN = -101, OUTSIDE = -102, STATE = -103, FULL = -104;

    private static final int LEAVES = 16, LEAF_ROOM = 8, TABLES = 60, SIDE = 6, RESULTS = 48, GREATEST = 100;
    private static final int INT = 0, LONG = 1, FLOAT = 2, DOUBLE = 3;
    private static final int TABLE = 0, SLANT = 1, BAND = 2, NET = 3, FLOW = 4;
    // The bodies of bound() are numbered otherwise than the kinds.
    private static final int TABLE_BODY = 1, SLANT_BODY = 2, NET_BODY = 3, FLOW_BODY = 4;
    private static final int NULL = 1, INDEX = 2, CAST = 3, SIZE = 4, BROKEN = 5, GREAT = 6, UNEVEN = 7, UNFIT = 8;

    private final Leaf[] leaves;
    private final Table[] tables;
    private int made;
    private final Big[] outcome;
    private int outcomes;
    private final int[] trail;
    private int trailed;
    private int place;
    private int latest;
    private final int[] told;
    private long lastSeen;
    private final Teller teller;
    private final Scale scale;
    private final Way way;
    private final Web web;

    public TableBench() {
        leaves = new Leaf[LEAVES];
        for (int l = 0; l < LEAVES; l++) {
            leaves[l] = new Leaf();
        }
        tables = new Table[TABLES];
        for (int t = 0; t < TABLES; t++) {
            tables[t] = new Table();
        }
        outcome = new Big[RESULTS];
        for (int i = 0; i < RESULTS; i++) {
            outcome[i] = new Big(Way.DIGITS);
        }
        trail = new int[4];
        told = new int[UNFIT + 1];
        place = NONE;
        teller = new Teller();
        scale = new Scale();
        way = new Way();
        web = new Web();
    }

    // ---- leaves

    public int leaf(int l, int lane, int n) {
        Leaf leaf = leafAt(l);
        if (leaf == null) {
            return UNKNOWN;
        }
        if (!Leaf.isLane(lane) || n > LEAF_ROOM) {
            return OUTSIDE;
        }
        if (n < 0) {
            return found(SIZE);
        }
        leaf.begin(lane, n);
        return n;
    }

    public int put(int l, int lane, int i, long word) {
        Leaf leaf = leafAt(l);
        if (leaf == null) {
            return UNKNOWN;
        }
        if (!Leaf.isLane(lane) || Leaf.isNoNumber(lane, word)) {
            return OUTSIDE;
        }
        if (leaf.isLost()) {
            return found(NULL);
        }
        if (leaf.lane != lane) {
            return found(CAST);
        }
        if (!leaf.has(i)) {
            return found(INDEX);
        }
        leaf.write(i, word);
        return 1;
    }

    public int lose(int l) {
        Leaf leaf = leafAt(l);
        if (leaf == null) {
            return UNKNOWN;
        }
        if (leaf.isLost()) {
            return found(NULL);
        }
        int had = leaf.length;
        leaf.vanish();
        return had;
    }

    // ---- tables

    public int table(int first, int n) {
        if (n < 1 || n > SIDE || first < 0 || first > LEAVES - n) {
            return OUTSIDE;
        }
        if (isFull()) {
            return FULL;
        }
        Table draft = draft(n);
        for (int i = 0; i < n; i++) {
            Leaf leaf = leafAt(first + i);
            if (leaf == null || leaf.isLost()) {
                return foundAt(NULL, 10 * i);
            }
            for (int k = 0; k < n; k++) {
                int fault = leaf.fault(k);
                if (fault != 0) {
                    return foundAt(fault, 10 * i + k);
                }
                draft.write(i, k, leaf.whole(k));
            }
        }
        int uneven = draft.uneven();
        return uneven == NONE ? keep(draft) : foundAt(UNEVEN, uneven);
    }

    public int where() {
        return place;
    }

    public int kind(int t) {
        Table one = tableAt(t);
        return one == null ? UNKNOWN : one.sort;
    }

    public int size(int t) {
        Table one = tableAt(t);
        return one == null ? UNKNOWN : one.side;
    }

    public int is(int t, int kind) {
        Table one = tableAt(t);
        if (one == null) {
            return UNKNOWN;
        }
        if (kind < TABLE || kind > FLOW) {
            return OUTSIDE;
        }
        boolean fits = kind == TABLE || kind == one.sort || kind == NET && one.sort == FLOW;
        return fits ? 1 : 0;
    }

    public int at(int t, int i, int k) {
        Table one = tableAt(t);
        if (one == null) {
            return UNKNOWN;
        }
        return one.has(i) && one.has(k) ? one.number(i, k) : found(INDEX);
    }

    public int flow(int t) {
        Table one = tableAt(t);
        if (one == null) {
            return UNKNOWN;
        }
        if (isFull()) {
            return FULL;
        }
        if (one.sort != NET) {
            return found(UNFIT);
        }
        Table draft = draft(one.side);
        draft.becomeFlow(one);
        int number = keep(draft);
        draft.sort = FLOW;
        return number;
    }

    public int turn(int t, int i, int k) {
        Table one = tableAt(t);
        if (one == null) {
            return UNKNOWN;
        }
        if (isFull()) {
            return FULL;
        }
        if (!one.has(i) || !one.has(k)) {
            return found(INDEX);
        }
        Table draft = draft(one.side);
        draft.becomeTurned(one, i, k);
        return keep(draft);
    }

    public int mix(int t, int i, int k, int f) {
        Table one = tableAt(t);
        if (one == null) {
            return UNKNOWN;
        }
        if (f < -10 || f > 10 || i == k) {
            return OUTSIDE;
        }
        if (isFull()) {
            return FULL;
        }
        if (!one.has(i) || !one.has(k)) {
            return found(INDEX);
        }
        Table draft = draft(one.side);
        draft.becomeMixed(one, i, k, f);
        return draft.isGreat() ? found(GREAT) : keep(draft);
    }

    public int shift(int t, int x) {
        Table one = tableAt(t);
        if (one == null) {
            return UNKNOWN;
        }
        if (x < -200 || x > 200) {
            return OUTSIDE;
        }
        if (isFull()) {
            return FULL;
        }
        Table draft = draft(one.side);
        draft.becomeShifted(one, x);
        return draft.isGreat() ? found(GREAT) : keep(draft);
    }

    public int drop(int t, int i) {
        Table one = tableAt(t);
        if (one == null) {
            return UNKNOWN;
        }
        if (one.side == 1) {
            return STATE;
        }
        if (isFull()) {
            return FULL;
        }
        if (!one.has(i)) {
            return found(INDEX);
        }
        Table draft = draft(one.side - 1);
        draft.becomeWithout(one, i);
        return keep(draft);
    }

    public int weave(int t, int u) {
        Table one = tableAt(t);
        Table other = tableAt(u);
        if (one == null || other == null) {
            return UNKNOWN;
        }
        if (one.side + other.side > SIDE) {
            return OUTSIDE;
        }
        if (isFull()) {
            return FULL;
        }
        Table draft = draft(one.side + other.side);
        draft.lay(one, 0);
        draft.lay(other, one.side);
        return keep(draft);
    }

    public int line(int t, int i, int k) {
        Table one = tableAt(t);
        if (one == null) {
            return UNKNOWN;
        }
        if (i == k) {
            return OUTSIDE;
        }
        if (isFull()) {
            return FULL;
        }
        if (one.sort != NET && !one.isEmpty()) {
            return found(UNFIT);
        }
        if (!one.has(i) || !one.has(k)) {
            return found(INDEX);
        }
        Table draft = draft(one.side);
        draft.lay(one, 0);
        int turned = 1 - one.number(i, k);
        draft.write(i, k, turned);
        draft.write(k, i, turned);
        return keep(draft);
    }

    public int bound(int t) {
        trailed = 0;
        Table one = tableAt(t);
        if (one == null) {
            return UNKNOWN;
        }
        if (one.sort == SLANT) {
            mark(SLANT_BODY);
            return one.greatestBetween();
        }
        if (one.sort == FLOW) {
            mark(FLOW_BODY);
        }
        if (one.isNet()) {
            mark(NET_BODY);
        }
        mark(TABLE_BODY);
        return one.greatestRow();
    }

    public int trace(int k) {
        return k >= 0 && k < trailed && k < trail.length ? trail[k] : NONE;
    }

    // ---- own values

    public int poly(int t) {
        Table one = tableAt(t);
        if (one == null) {
            return UNKNOWN;
        }
        teller.read(one);
        return answer(teller.whole);
    }

    public int worth(int t) {
        Table one = tableAt(t);
        if (one == null) {
            return UNKNOWN;
        }
        teller.read(one);
        long last = teller.whole.number(0);
        return answerOne(one.side % 2 == 0 ? last : -last);
    }

    public int ring(int t) {
        Table one = tableAt(t);
        if (one == null) {
            return UNKNOWN;
        }
        teller.read(one);
        teller.makeLeast();
        return answer(teller.least);
    }

    public int often(int t, int j) {
        Table one = tableAt(t);
        if (one == null) {
            return UNKNOWN;
        }
        if (j < 1 || j > SIDE) {
            return OUTSIDE;
        }
        teller.read(one);
        return teller.unlikeAtLeast(j);
    }

    public int count(int t, int what, int a, int b) {
        Table one = tableAt(t);
        if (one == null) {
            return UNKNOWN;
        }
        if (what < 0 || what > 5 || b < 1 || b > 1000 || a < -1000000 || a > 1000000) {
            return OUTSIDE;
        }
        teller.read(one);
        if (what < 3) {
            scale.weigh(teller.whole, a, b);
        } else {
            teller.makeLeast();
            scale.weigh(teller.least, a, b);
        }
        int part = what % 3;
        return part == 0 ? scale.below : part == 1 ? scale.just : scale.above;
    }

    public int shut(int t, int i, int k) {
        Table one = tableAt(t);
        if (one == null) {
            return UNKNOWN;
        }
        if (k < 0 || k > 20) {
            return OUTSIDE;
        }
        teller.read(one);
        teller.makeLeast();
        if (i < 0 || i >= teller.least.degree) {
            return found(INDEX);
        }
        int part = 1 << k;
        int m = scale.greatestNotAbove(teller.least, i, part);
        lastSeen = m;
        return scale.isJust(teller.least, i, m, part) ? 1 : 0;
    }

    public long seen() {
        return lastSeen;
    }

    public int same(int t, int u) {
        Table one = tableAt(t);
        Table other = tableAt(u);
        if (one == null || other == null) {
            return UNKNOWN;
        }
        teller.read(one);
        teller.keepWhole();
        teller.read(other);
        return teller.isAsKept() ? 1 : 0;
    }

    // ---- forms

    public int bend(int t) {
        Table one = tableAt(t);
        if (one == null) {
            return UNKNOWN;
        }
        way.make(one);
        int n = one.side;
        for (int i = 0; i < n; i++) {
            outcome[i].copy(way.straight[i]);
            copyRow(i, n + i * n);
        }
        outcomes = n + n * n;
        return outcomes;
    }

    public int signs(int t) {
        Table one = tableAt(t);
        if (one == null) {
            return UNKNOWN;
        }
        way.make(one);
        int together = 0;
        for (int i = 0; i < one.side; i++) {
            int direction = way.straight[i].direction;
            together += direction > 0 ? 100 : direction == 0 ? 10 : 1;
        }
        return together;
    }

    public int show(int t) {
        Table one = tableAt(t);
        if (one == null) {
            return UNKNOWN;
        }
        way.make(one);
        for (int i = 0; i < one.side; i++) {
            if (way.straight[i].direction <= 0) {
                copyRow(i, 0);
                outcomes = one.side;
                return outcomes;
            }
        }
        return NONE;
    }

    public int form(int t, int l) {
        Table one = tableAt(t);
        Leaf leaf = leafAt(l);
        if (one == null || leaf == null) {
            return UNKNOWN;
        }
        if (leaf.isLost()) {
            return foundAt(NULL, 0);
        }
        for (int k = 0; k < one.side; k++) {
            int fault = leaf.fault(k);
            if (fault != 0) {
                return foundAt(fault, k);
            }
        }
        outcome[0].become(one.formOf(leaf));
        outcome[1].become(leaf.squares(one.side));
        outcomes = 2;
        return 2;
    }

    // ---- nets

    public int walks(int t, int k) {
        Table one = tableAt(t);
        if (one == null) {
            return UNKNOWN;
        }
        if (k < 0 || k > 20) {
            return OUTSIDE;
        }
        return one.sort == NET ? answerOne(web.closedWalks(one, k)) : found(UNFIT);
    }

    public int pieces(int t) {
        Table one = tableAt(t);
        if (one == null) {
            return UNKNOWN;
        }
        return one.isNet() ? web.hangTogether(one) : found(UNFIT);
    }

    public int two(int t) {
        Table one = tableAt(t);
        if (one == null) {
            return UNKNOWN;
        }
        if (!one.isNet()) {
            return found(UNFIT);
        }
        return web.partsInTwo(one) ? 1 : 0;
    }

    public int trees(int t) {
        Table one = tableAt(t);
        if (one == null) {
            return UNKNOWN;
        }
        if (one.sort != FLOW) {
            return found(UNFIT);
        }
        teller.read(one);
        // The number at x^1 is, but for its sign, the sum of all worths of the FLOW less one thing; each is the count.
        long sum = Math.abs(teller.whole.number(1));
        return answerOne(sum / Math.max(one.side, 1));
    }

    // ---- the result

    public int results() {
        return outcomes;
    }

    public int sign(int i) {
        return hasOutcome(i) ? outcome[i].direction : 0;
    }

    public int bits(int i) {
        return hasOutcome(i) ? outcome[i].width() : 0;
    }

    public long word(int i, int k) {
        return hasOutcome(i) ? outcome[i].wordAt(k) : 0;
    }

    // ---- what is told

    public int finding() {
        return latest;
    }

    public int findings(int f) {
        return f >= NULL && f <= UNFIT ? told[f] : OUTSIDE;
    }

    public int about(int what) {
        if (what < 0 || what > 6) {
            return OUTSIDE;
        }
        if (what == 0) {
            return made;
        }
        return what == 1 ? leavesThere() : tablesOf(what - 2);
    }

    public long digest() {
        long h = 41;
        for (int l = 0; l < LEAVES; l++) {
            h = 31 * h + leaves[l].length;
        }
        for (int t = 0; t < made && t < TABLES; t++) {
            h = tables[t].fold(h);
        }
        h = 31 * h + outcomes;
        for (int i = 0; i < outcomes && i < RESULTS; i++) {
            h = 31 * h + outcome[i].direction;
            h = 31 * h + outcome[i].width();
            h = 31 * h + outcome[i].wordAt(0);
        }
        return h;
    }

    // ---- behind the face

    private Leaf leafAt(int l) {
        return l >= 0 && l < LEAVES ? leaves[l] : null;
    }

    private Table tableAt(int t) {
        return t >= 0 && t < made && t < TABLES ? tables[t] : null;
    }

    private boolean isFull() {
        return made >= TABLES;
    }

    /** The next table, not yet counted: what fails while it is written leaves nothing behind. */
    private Table draft(int side) {
        Table draft = tables[made < TABLES ? made : TABLES - 1];
        draft.begin(side);
        return draft;
    }

    private int keep(Table draft) {
        draft.sortOut();
        made++;
        return made - 1;
    }

    private int found(int finding) {
        latest = finding;
        if (finding >= 0 && finding < told.length) {
            told[finding]++;
        }
        return -10 - finding;
    }

    private int foundAt(int finding, int at) {
        place = at;
        return found(finding);
    }

    private void mark(int body) {
        if (trailed < trail.length) {
            trail[trailed] = body;
            trailed++;
        }
    }

    private boolean hasOutcome(int i) {
        return i >= 0 && i < outcomes && i < RESULTS;
    }

    private int answer(Polynomial polynomial) {
        outcomes = polynomial.degree + 1;
        for (int i = 0; i < outcomes && i < RESULTS; i++) {
            outcome[i].become(polynomial.number(i));
        }
        return outcomes;
    }

    private int answerOne(long number) {
        outcome[0].become(number);
        outcomes = 1;
        return 1;
    }

    private void copyRow(int i, int to) {
        for (int k = 0; k < way.side; k++) {
            if (to + k < RESULTS) {
                outcome[to + k].copy(way.rows[i * SIDE + k]);
            }
        }
    }

    private int leavesThere() {
        int there = 0;
        for (int l = 0; l < LEAVES; l++) {
            if (!leaves[l].isLost()) {
                there++;
            }
        }
        return there;
    }

    private int tablesOf(int sort) {
        int many = 0;
        for (int t = 0; t < made && t < TABLES; t++) {
            if (tables[t].sort == sort) {
                many++;
            }
        }
        return many;
    }

    /** A row of words of one lane; they are read as numbers only when a table or a form asks. */
    private static final class Leaf {
        private int lane;
        private int length = NONE;
        private final long[] words = new long[LEAF_ROOM];

        static boolean isLane(int lane) {
            return lane >= INT && lane <= DOUBLE;
        }

        static boolean isNoNumber(int lane, long word) {
            if (lane == FLOAT) {
                return ((int) word & 0x7fffffff) > 0x7f800000;
            }
            return lane == DOUBLE && (word & 0x7fffffffffffffffL) > 0x7ff0000000000000L;
        }

        boolean isLost() {
            return length < 0;
        }

        boolean has(int i) {
            return i >= 0 && i < length && i < LEAF_ROOM;
        }

        void vanish() {
            length = NONE;
        }

        void begin(int newLane, int newLength) {
            lane = newLane;
            length = Math.min(newLength, LEAF_ROOM);
            for (int i = 0; i < LEAF_ROOM; i++) {
                words[i] = 0;
            }
        }

        void write(int i, long word) {
            if (has(i)) {
                words[i] = word;
            }
        }

        /** The finding that number i gives in a table, or 0. */
        int fault(int i) {
            if (!has(i)) {
                return INDEX;
            }
            long word = words[i];
            if (lane == LONG) {
                return word < -GREATEST || word > GREATEST ? GREAT : 0;
            }
            if (lane == INT) {
                int number = (int) word;
                return number < -GREATEST || number > GREATEST ? GREAT : 0;
            }
            return fractionFault(i);
        }

        int whole(int i) {
            if (!has(i)) {
                return 0;
            }
            if (lane == INT || lane == LONG) {
                return (int) words[i];
            }
            if (isNought(i)) {
                return 0;
            }
            int apart = fractionBits() - power(i);
            int size = apart >= 0 && apart < 64 ? (int) (mantissa(i) >>> apart) : 0;
            return isBelowNought(i) ? -size : size;
        }

        long squares(int n) {
            long sum = 0;
            for (int i = 0; i < n; i++) {
                sum += (long) whole(i) * whole(i);
            }
            return sum;
        }

        private int fractionFault(int i) {
            if (isNought(i)) {
                return 0;
            }
            int power = power(i);
            boolean endless = power > (lane == FLOAT ? 127 : 1023);
            if (endless || power < 0) {
                return BROKEN;
            }
            int apart = fractionBits() - power;
            if (apart <= 0) {
                return GREAT;
            }
            if ((mantissa(i) & ((1L << apart) - 1)) != 0) {
                return BROKEN;
            }
            return mantissa(i) >>> apart > GREATEST ? GREAT : 0;
        }

        private int fractionBits() {
            return lane == FLOAT ? 23 : 52;
        }

        /** The power of two of the number's first bit; of the smallest numbers it is only known to be below 0. */
        private int power(int i) {
            if (lane == FLOAT) {
                return (((int) words[i] >>> 23) & 255) - 127;
            }
            return ((int) (words[i] >>> 52) & 2047) - 1023;
        }

        private long mantissa(int i) {
            long first = 1L << fractionBits();
            return words[i] & (first - 1) | first;
        }

        private boolean isNought(int i) {
            return lane == FLOAT ? (int) words[i] << 1 == 0 : words[i] << 1 == 0;
        }

        private boolean isBelowNought(int i) {
            return lane == FLOAT ? (int) words[i] < 0 : words[i] < 0;
        }
    }

    private static final class Table {
        private int side;
        private int sort;
        private final int[] numbers = new int[SIDE * SIDE];

        boolean has(int i) {
            return i >= 0 && i < side;
        }

        int number(int i, int k) {
            return has(i) && has(k) ? numbers[i * SIDE + k] : 0;
        }

        void write(int i, int k, int number) {
            if (has(i) && has(k)) {
                numbers[i * SIDE + k] = number;
            }
        }

        void begin(int newSide) {
            side = Math.max(1, Math.min(newSide, SIDE));
            for (int i = 0; i < SIDE * SIDE; i++) {
                numbers[i] = 0;
            }
        }

        void lay(Table from, int corner) {
            for (int i = 0; i < from.side; i++) {
                for (int k = 0; k < from.side; k++) {
                    write(corner + i, corner + k, from.number(i, k));
                }
            }
        }

        void becomeFlow(Table net) {
            for (int i = 0; i < side; i++) {
                int lines = 0;
                for (int k = 0; k < side; k++) {
                    lines += net.number(i, k);
                    write(i, k, -net.number(i, k));
                }
                write(i, i, lines);
            }
        }

        void becomeTurned(Table from, int one, int other) {
            for (int i = 0; i < side; i++) {
                int row = i == one ? other : i == other ? one : i;
                for (int k = 0; k < side; k++) {
                    int column = k == one ? other : k == other ? one : k;
                    write(i, k, from.number(row, column));
                }
            }
        }

        void becomeMixed(Table from, int one, int other, int factor) {
            lay(from, 0);
            for (int k = 0; k < side; k++) {
                write(one, k, number(one, k) + factor * number(other, k));
            }
            for (int i = 0; i < side; i++) {
                write(i, one, number(i, one) + factor * number(i, other));
            }
        }

        void becomeShifted(Table from, int more) {
            lay(from, 0);
            for (int i = 0; i < side; i++) {
                write(i, i, number(i, i) + more);
            }
        }

        void becomeWithout(Table from, int gone) {
            for (int i = 0; i < side; i++) {
                for (int k = 0; k < side; k++) {
                    write(i, k, from.number(i < gone ? i : i + 1, k < gone ? k : k + 1));
                }
            }
        }

        /** 10 i + k of the first place that is not as its mirror place, or NONE. */
        int uneven() {
            for (int i = 0; i < side; i++) {
                for (int k = 0; k < side; k++) {
                    if (number(i, k) != number(k, i)) {
                        return 10 * i + k;
                    }
                }
            }
            return NONE;
        }

        boolean isGreat() {
            for (int i = 0; i < side; i++) {
                for (int k = 0; k < side; k++) {
                    if (Math.abs(number(i, k)) > GREATEST) {
                        return true;
                    }
                }
            }
            return false;
        }

        void sortOut() {
            if (reach() == 0) {
                sort = SLANT;
            } else if (isOfLines()) {
                sort = NET;
            } else {
                sort = reach() == 1 ? BAND : TABLE;
            }
        }

        boolean isNet() {
            return sort == NET || sort == FLOW;
        }

        boolean isEmpty() {
            return reach() == 0 && greatestBetween() == 0;
        }

        boolean isTied(int i, int k) {
            return i != k && number(i, k) != 0;
        }

        int greatestRow() {
            int greatest = 0;
            for (int i = 0; i < side; i++) {
                int sum = 0;
                for (int k = 0; k < side; k++) {
                    sum += Math.abs(number(i, k));
                }
                greatest = Math.max(greatest, sum);
            }
            return greatest;
        }

        int greatestBetween() {
            int greatest = 0;
            for (int i = 0; i < side; i++) {
                greatest = Math.max(greatest, Math.abs(number(i, i)));
            }
            return greatest;
        }

        long formOf(Leaf leaf) {
            long sum = 0;
            for (int i = 0; i < side; i++) {
                for (int k = 0; k < side; k++) {
                    sum += (long) leaf.whole(i) * number(i, k) * leaf.whole(k);
                }
            }
            return sum;
        }

        long fold(long start) {
            long h = 31 * (31 * start + sort) + side;
            for (int i = 0; i < side; i++) {
                for (int k = 0; k < side; k++) {
                    h = 31 * h + number(i, k);
                }
            }
            return h;
        }

        /** How far the farthest number that is not 0 lies from where i is k. */
        private int reach() {
            int reach = 0;
            for (int i = 0; i < side; i++) {
                for (int k = 0; k < i; k++) {
                    if (isTied(i, k)) {
                        reach = Math.max(reach, i - k);
                    }
                }
            }
            return reach;
        }

        private boolean isOfLines() {
            for (int i = 0; i < side; i++) {
                for (int k = 0; k < side; k++) {
                    int number = number(i, k);
                    if (number != 0 && (number != 1 || i == k)) {
                        return false;
                    }
                }
            }
            return true;
        }
    }

    /** A whole number with room for a fixed count of digits, used again and again. */
    private static final class Big {
        static final int DIGIT_BITS = 30, BASE = 1 << DIGIT_BITS, MASK = BASE - 1, DIGITS_OF_LONG = 3;

        private int direction;
        private int length;
        private final int[] digits;

        Big(int room) {
            digits = new int[Math.max(room, DIGITS_OF_LONG)];
        }

        int digit(int i) {
            return i >= 0 && i < length && i < digits.length ? digits[i] : 0;
        }

        void setDigit(int i, int digit) {
            if (i >= 0 && i < digits.length) {
                digits[i] = digit;
            }
        }

        void become(long number) {
            long left = number;
            // Below 0 the digits are taken from the negative side: the least long has no size of its own.
            for (int i = 0; i < DIGITS_OF_LONG; i++) {
                setDigit(i, Math.abs((int) (left % BASE)));
                left /= BASE;
            }
            direction = Long.compare(number, 0);
            trim(DIGITS_OF_LONG);
        }

        void copy(Big other) {
            for (int i = 0; i < other.length; i++) {
                setDigit(i, other.digit(i));
            }
            direction = other.direction;
            trim(other.length);
        }

        /** Sets the length, at most as told, past zeros in front. */
        void trim(int atMost) {
            int end = atMost < digits.length ? atMost : digits.length;
            while (end > 0 && digits[end - 1] == 0) {
                end--;
            }
            length = end;
            if (end == 0) {
                direction = 0;
            }
        }

        /** Adds the other (side is 1), or takes it away (side is -1). */
        void add(Big other, int side) {
            int towards = other.direction * side;
            if (towards == 0) {
                return;
            }
            if (direction == 0) {
                copy(other);
                direction = towards;
            } else if (direction == towards) {
                addSize(other);
            } else if (isAtLeastInSize(other)) {
                takeSize(other, false);
            } else {
                direction = towards;
                takeSize(other, true);
            }
        }

        private void addSize(Big other) {
            int end = Math.max(length, other.length) + 1;
            int carry = 0;
            for (int i = 0; i < end; i++) {
                int sum = digit(i) + other.digit(i) + carry;
                setDigit(i, sum & MASK);
                carry = sum >>> DIGIT_BITS;
            }
            trim(end);
        }

        /** The smaller size is taken from the greater one; turned about, the other's is the greater. */
        private void takeSize(Big other, boolean turned) {
            int end = Math.max(length, other.length);
            int borrow = 0;
            for (int i = 0; i < end; i++) {
                int rest = turned ? other.digit(i) - digit(i) : digit(i) - other.digit(i);
                rest -= borrow;
                borrow = rest < 0 ? 1 : 0;
                setDigit(i, rest & MASK);
            }
            trim(end);
        }

        private boolean isAtLeastInSize(Big other) {
            if (length != other.length) {
                return length > other.length;
            }
            for (int i = length - 1; i >= 0; i--) {
                if (digit(i) != other.digit(i)) {
                    return digit(i) > other.digit(i);
                }
            }
            return true;
        }

        /** Times a number whose size is below the base. */
        void scaleBy(int factor) {
            long size = Math.abs((long) factor);
            long carry = 0;
            int end = length + 1;
            for (int i = 0; i < end; i++) {
                carry += digit(i) * size;
                setDigit(i, (int) (carry & MASK));
                carry >>>= DIGIT_BITS;
            }
            direction = factor < 0 ? -direction : direction;
            trim(end);
        }

        /** Becomes a product; it must be neither of the two. */
        void becomeProduct(Big a, Big b) {
            int end = Math.min(a.length + b.length, digits.length);
            for (int i = 0; i < end; i++) {
                digits[i] = 0;
            }
            for (int i = 0; i < a.length; i++) {
                addProduct(a.digit(i), b, i, end);
            }
            direction = a.direction * b.direction;
            trim(end);
        }

        private void addProduct(long factor, Big b, int from, int end) {
            long carry = 0;
            for (int k = 0; k <= b.length && from + k < end; k++) {
                carry += factor * b.digit(k) + digits[from + k];
                digits[from + k] = (int) (carry & MASK);
                carry >>>= DIGIT_BITS;
            }
        }

        /** Whether two digits hold it, so that a long does. */
        boolean isShort() {
            return length < DIGITS_OF_LONG;
        }

        /** The number of at most 63 bits that this is. */
        long asLong() {
            long size = 0;
            for (int i = DIGITS_OF_LONG - 1; i >= 0; i--) {
                size = size << DIGIT_BITS | digit(i);
            }
            return direction < 0 ? -size : size;
        }

        int width() {
            if (length == 0) {
                return 0;
            }
            int bits = (length - 1) * DIGIT_BITS;
            for (int i = 0; i < DIGIT_BITS; i++) {
                bits += digit(length - 1) >> i > 0 ? 1 : 0;
            }
            return bits;
        }

        long wordAt(int k) {
            if (k < 0 || k > digits.length) {
                return 0;
            }
            int first = 32 * k / DIGIT_BITS;
            int apart = 32 * k % DIGIT_BITS;
            // A word begins at an even place of a digit, 28 at the most: two digits, of 60 bits, hold it whole.
            long pair = (long) digit(first + 1) << DIGIT_BITS | digit(first);
            return pair >>> apart & 0xffffffffL;
        }
    }

    /** Long division, and the greatest number that goes into two. */
    private static final class Divider {
        private final int[] upper;
        private final int[] lower;
        private Big one;
        private Big two;
        private Big rest;

        Divider(int room) {
            int places = Math.max(room, 0) + 2;
            upper = new int[places];
            lower = new int[places];
            one = new Big(room);
            two = new Big(room);
            rest = new Big(room);
        }

        /** The first number becomes the quotient, rest what is left over. */
        void divide(Big a, Big b) {
            int n = b.length;
            int turns = a.length - n;
            if (n == 0 || turns < 0 || a.length + 1 >= upper.length) {
                rest.copy(a);
                a.become(0);
                return;
            }
            // Stretched until the divisor's first digit is at least half the base: only then are the guesses good.
            int stretch = Big.BASE / Math.max(b.digit(n - 1) + 1, 1);
            stretchInto(upper, a, stretch);
            stretchInto(lower, b, stretch);
            for (int j = turns; j >= 0; j--) {
                a.setDigit(j, takeOff(j, n, guess(j, n)));
            }
            shrinkIntoRest(n, stretch);
            rest.direction = a.direction;
            rest.trim(n);
            a.direction *= b.direction;
            a.trim(turns + 1);
        }

        void greatestIntoBoth(Big a, Big b, Big to) {
            one.copy(a);
            two.copy(b);
            for (int step = 0; step < 100000 && two.direction != 0 && !(one.isShort() && two.isShort()); step++) {
                divide(one, two);
                Big freed = one;
                one = two;
                two = rest;
                rest = freed;
            }
            if (two.direction == 0) {
                to.copy(one);
                to.direction = Math.abs(one.direction);
            } else {
                to.become(greatestIntoLongs(one.asLong(), two.asLong()));
            }
        }

        private static long greatestIntoLongs(long a, long b) {
            long x = Math.abs(a);
            long y = Math.abs(b);
            for (int step = 0; step < 1000 && y != 0; step++) {
                long left = x % y;
                x = y;
                y = left;
            }
            return x;
        }

        private static void stretchInto(int[] to, Big number, int stretch) {
            long carry = 0;
            for (int i = 0; i <= number.length && i < to.length; i++) {
                carry += (long) number.digit(i) * stretch;
                to[i] = (int) (carry & Big.MASK);
                carry >>>= Big.DIGIT_BITS;
            }
        }

        private void shrinkIntoRest(int n, int stretch) {
            long left = 0;
            for (int i = Math.min(n, upper.length) - 1; i >= 0 && stretch > 0; i--) {
                left = left << Big.DIGIT_BITS | upper[i];
                rest.setDigit(i, (int) (left / stretch));
                left %= stretch;
            }
        }

        /** The digit that the divisor of n digits goes in at place j, by its first two: at most one too great. */
        private long guess(int j, int n) {
            long top = lowerDigit(n - 1);
            if (top == 0) {
                return 0;
            }
            long head = upperDigit(j + n) << Big.DIGIT_BITS | upperDigit(j + n - 1);
            long digit = head / top;
            long left = head % top;
            for (int step = 0; step < 3 && left < Big.BASE; step++) {
                long room = n > 1 ? left << Big.DIGIT_BITS | upperDigit(j + n - 2) : 0;
                if (digit < Big.BASE && digit * lowerDigit(n - 2) <= room) {
                    return digit;
                }
                digit--;
                left += top;
            }
            return digit;
        }

        private int takeOff(int j, int n, long digit) {
            long carry = 0;
            for (int i = 0; i <= n && i < lower.length && j + i < upper.length; i++) {
                carry += digit * lower[i];
                long left = upper[j + i] - (carry & Big.MASK);
                carry >>>= Big.DIGIT_BITS;
                carry += left < 0 ? 1 : 0;
                upper[j + i] = (int) (left & Big.MASK);
            }
            if (carry == 0) {
                return (int) digit;
            }
            putBack(j, n);
            return (int) (digit - 1);
        }

        private void putBack(int j, int n) {
            long carry = 0;
            for (int i = 0; i <= n && i < lower.length && j + i < upper.length; i++) {
                carry += upper[j + i] + lower[i];
                upper[j + i] = (int) (carry & Big.MASK);
                carry >>>= Big.DIGIT_BITS;
            }
        }

        private long upperDigit(int i) {
            return i >= 0 && i < upper.length ? upper[i] : 0;
        }

        private long lowerDigit(int i) {
            return i >= 0 && i < lower.length ? lower[i] : 0;
        }
    }

    /** A polynomial of whole numbers, from x^0 on. */
    private static final class Polynomial {
        private int degree;
        private final long[] numbers = new long[SIDE + 1];

        void begin(int newDegree) {
            degree = Math.max(0, Math.min(newDegree, SIDE));
        }

        long number(int i) {
            return i >= 0 && i < numbers.length ? numbers[i] : 0;
        }

        void write(int i, long number) {
            if (i >= 0 && i < numbers.length) {
                numbers[i] = number;
            }
        }

        void copy(Polynomial other) {
            begin(other.degree);
            for (int i = 0; i <= degree; i++) {
                write(i, other.number(i));
            }
        }

        boolean isAs(Polynomial other) {
            for (int i = 0; i <= degree; i++) {
                if (number(i) != other.number(i)) {
                    return false;
                }
            }
            return degree == other.degree;
        }

        /** What goes into it, with 1 at its highest power, is taken out of it until nothing is left. */
        void takeOut(Polynomial part, Polynomial quotient) {
            quotient.begin(degree - part.degree);
            for (int i = quotient.degree; i >= 0; i--) {
                long factor = number(i + part.degree);
                quotient.write(i, factor);
                for (int k = 0; k <= part.degree; k++) {
                    write(i + k, number(i + k) - factor * part.number(k));
                }
            }
        }
    }

    /** Multiplied by a table again and again. */
    private static final class Power {
        private int side;
        private long[] numbers = new long[SIDE * SIDE];
        private long[] next = new long[SIDE * SIDE];

        /** The power of 0: 1 where i is k. */
        void begin(int newSide) {
            side = Math.max(0, Math.min(newSide, SIDE));
            for (int i = 0; i < SIDE * SIDE; i++) {
                numbers[i] = 0;
            }
            shiftBy(1);
        }

        void shiftBy(long more) {
            for (int i = 0; i < side; i++) {
                numbers[i * (SIDE + 1)] += more;
            }
        }

        void multiplyBy(Table table) {
            for (int i = 0; i < side; i++) {
                for (int k = 0; k < side; k++) {
                    long sum = 0;
                    for (int j = 0; j < side; j++) {
                        sum += table.number(i, j) * numbers[j * SIDE + k];
                    }
                    next[i * SIDE + k] = sum;
                }
            }
            long[] freed = numbers;
            numbers = next;
            next = freed;
        }

        /** The sum of the numbers where i is k. */
        long sumBetween() {
            long sum = 0;
            for (int i = 0; i < side; i++) {
                sum += numbers[i * (SIDE + 1)];
            }
            return sum;
        }
    }

    /** Tells polynomials: that of a table, and those with fewer of its roots. */
    private static final class Teller {
        static final int DIGITS = 40;

        private final Polynomial whole = new Polynomial();
        private final Polynomial least = new Polynomial();
        private final Polynomial common = new Polynomial();
        private final Polynomial kept = new Polynomial();
        private final Power power = new Power();
        private Big[] upper = bigRow();
        private Big[] lower = bigRow();
        private Big[] left = bigRow();
        private final Big product = new Big(DIGITS);
        private final Big top = new Big(DIGITS);
        private final Divider divider = new Divider(DIGITS);

        private static Big[] bigRow() {
            Big[] row = new Big[SIDE + 1];
            for (int i = 0; i <= SIDE; i++) {
                row[i] = new Big(DIGITS);
            }
            return row;
        }

        /** Faddeev and LeVerrier's way: each number from the sum where i is k of a product with the table. */
        void read(Table table) {
            int n = table.side;
            whole.begin(n);
            whole.write(n, 1);
            power.begin(n);
            for (int step = 1; step <= n; step++) {
                power.multiplyBy(table);
                long number = -power.sumBetween() / step;
                whole.write(n - step, number);
                power.shiftBy(number);
            }
        }

        void keepWhole() {
            kept.copy(whole);
        }

        boolean isAsKept() {
            return whole.isAs(kept);
        }

        /** The least polynomial is the whole one without what that has in common with its slope. */
        void makeLeast() {
            shareWithSlope(whole);
            kept.copy(whole);
            kept.takeOut(common, least);
        }

        /** What a polynomial shares with its slope has each root once less. */
        int unlikeAtLeast(int times) {
            kept.copy(whole);
            for (int step = 1; step < times; step++) {
                shareWithSlope(kept);
                kept.copy(common);
            }
            shareWithSlope(kept);
            return kept.degree - common.degree;
        }

        /**
         * Makes the common part. All roots are real, so that each remainder's degree is just one less, and the square
         * of the first number of the polynomial two before goes into it.
         */
        private void shareWithSlope(Polynomial of) {
            int degree = of.degree;
            for (int i = 0; i <= degree; i++) {
                upper[i].become(of.number(i));
            }
            for (int i = 0; i < degree; i++) {
                lower[i].become(of.number(i + 1));
                lower[i].scaleBy(i + 1);
            }
            int now = degree - 1;
            while (now > 0 && takeRemainder(now)) {
                Big[] freed = upper;
                upper = lower;
                lower = left;
                left = freed;
                now--;
            }
            common.begin(now);
            if (common.degree == 0) {
                common.write(0, 1);
                return;
            }
            top.copy(lower[now]);
            for (int i = 0; i <= now; i++) {
                divider.divide(lower[i], top);
                common.write(i, lower[i].asLong());
            }
        }

        /** The remainder of upper, of one degree more, by lower, into left: whether it is not 0. */
        private boolean takeRemainder(int lowerDegree) {
            if (lowerDegree < 0 || lowerDegree >= SIDE) {
                return false;
            }
            Big lead = upper[lowerDegree + 1];
            Big head = lower[lowerDegree];
            for (int i = 0; i <= lowerDegree; i++) {
                left[i].becomeProduct(upper[i], head);
                if (i > 0) {
                    product.becomeProduct(lower[i - 1], lead);
                    left[i].add(product, -1);
                }
            }
            top.copy(left[lowerDegree]);
            boolean any = false;
            for (int i = 0; i < lowerDegree; i++) {
                product.becomeProduct(left[i], head);
                left[i].becomeProduct(lower[i], top);
                product.add(left[i], -1);
                divider.divide(product, lead);
                divider.divide(product, lead);
                left[i].copy(product);
                any = any || product.direction != 0;
            }
            return any;
        }
    }

    /** Weighs the roots of a polynomial, all real, against a fraction. */
    private static final class Scale {
        static final int DIGITS = 10;

        private final Big[] numbers = new Big[SIDE + 1];
        private final Big more = new Big(DIGITS);
        private int below;
        private int just;
        private int above;

        Scale() {
            for (int i = 0; i <= SIDE; i++) {
                numbers[i] = new Big(DIGITS);
            }
        }

        /** Descartes' rule is exact where all roots are real: as many above 0 as the numbers' signs change. */
        void weigh(Polynomial polynomial, int a, int b) {
            int degree = polynomial.degree;
            moveBy(polynomial, a, b);
            just = 0;
            while (just < degree && numbers[just].direction == 0) {
                just++;
            }
            above = 0;
            int before = 0;
            for (int i = 0; i <= degree; i++) {
                int direction = numbers[i].direction;
                if (direction != 0) {
                    above += direction == -before ? 1 : 0;
                    before = direction;
                }
            }
            below = degree - just - above;
        }

        /** By halves: no root's size is above that of the sum of a row. */
        int greatestNotAbove(Polynomial polynomial, int i, int part) {
            int low = -(SIDE * GREATEST + 1) * part;
            int high = (SIDE * GREATEST + 1) * part;
            for (int step = 0; step < 64 && high - low > 1; step++) {
                int middle = low + (high - low) / 2;
                weigh(polynomial, middle, part);
                if (below <= i) {
                    low = middle;
                } else {
                    high = middle;
                }
            }
            return low;
        }

        /** Whether root i, all being unlike, is just a / b: the one below may be just there, root i close behind. */
        boolean isJust(Polynomial polynomial, int i, int a, int b) {
            weigh(polynomial, a, b);
            return just == 1 && below == i;
        }

        /** The numbers become those of the polynomial whose roots are b times the roots, less a. */
        private void moveBy(Polynomial polynomial, int a, int b) {
            int degree = polynomial.degree;
            for (int i = 0; i <= degree; i++) {
                numbers[i].become(polynomial.number(i));
                for (int k = i; k < degree; k++) {
                    numbers[i].scaleBy(b);
                }
            }
            for (int i = 0; i < degree; i++) {
                for (int k = degree - 1; k >= i; k--) {
                    more.copy(numbers[k + 1]);
                    more.scaleBy(a);
                    numbers[k].add(more, 1);
                }
            }
        }
    }

    /** The way by which a table is bent straight. */
    private static final class Way {
        static final int DIGITS = 12;

        private int side;
        private final Big[] rows = new Big[SIDE * SIDE];
        private final Big[] straight = new Big[SIDE];
        private final Big[] lean = new Big[SIDE];
        private final Big pivot = new Big(DIGITS);
        private final Big other = new Big(DIGITS);
        private final Big common = new Big(DIGITS);
        private final Big product = new Big(DIGITS);
        private final Divider divider = new Divider(DIGITS);

        Way() {
            for (int i = 0; i < SIDE; i++) {
                straight[i] = new Big(DIGITS);
                lean[i] = new Big(DIGITS);
            }
            for (int i = 0; i < SIDE * SIDE; i++) {
                rows[i] = new Big(DIGITS);
            }
        }

        void make(Table table) {
            side = table.side;
            for (int i = 0; i < SIDE * SIDE; i++) {
                rows[i].become(i % (SIDE + 1) == 0 ? 1 : 0);
            }
            for (int i = 0; i < side; i++) {
                boolean pivots = changeForPivot(table, i) || addForPivot(table, i);
                for (int k = i + 1; k < side && pivots; k++) {
                    if (clear(i, k)) {
                        lighten(k);
                    }
                }
            }
            for (int i = 0; i < side; i++) {
                leanOn(table, i);
                meet(i, straight[i]);
            }
        }

        /** Row i itself or the next that meets itself comes to place i; the table leans on it: whether there is one. */
        private boolean changeForPivot(Table table, int i) {
            for (int k = i; k < side; k++) {
                leanOn(table, k);
                meet(k, pivot);
                if (pivot.direction != 0) {
                    changePlaces(i, k);
                    return true;
                }
            }
            return false;
        }

        /** Where no row meets itself: row i takes on the next that it meets, and the table leans on it. */
        private boolean addForPivot(Table table, int i) {
            leanOn(table, i);
            for (int k = i + 1; k < side; k++) {
                meet(k, other);
                if (other.direction != 0) {
                    for (int j = 0; j < side; j++) {
                        rows[i * SIDE + j].add(rows[k * SIDE + j], 1);
                    }
                    leanOn(table, i);
                    meet(i, pivot);
                    return true;
                }
            }
            return false;
        }

        private void changePlaces(int i, int k) {
            for (int j = 0; j < side; j++) {
                Big held = rows[i * SIDE + j];
                rows[i * SIDE + j] = rows[k * SIDE + j];
                rows[k * SIDE + j] = held;
            }
        }

        /** Row k loses what it has of row i, on which the table leans: whether it had any. */
        private boolean clear(int i, int k) {
            meet(k, other);
            if (other.direction == 0) {
                return false;
            }
            divider.greatestIntoBoth(pivot, other, common);
            divider.divide(other, common);
            product.copy(pivot);
            divider.divide(product, common);
            common.copy(product);
            for (int j = 0; j < side; j++) {
                Big number = rows[k * SIDE + j];
                product.becomeProduct(number, common);
                number.becomeProduct(rows[i * SIDE + j], other);
                product.add(number, -1);
                number.copy(product);
            }
            return true;
        }

        /** Divides row k by what goes into all of its numbers. */
        private void lighten(int k) {
            common.become(0);
            for (int j = 0; j < side; j++) {
                divider.greatestIntoBoth(rows[k * SIDE + j], common, common);
            }
            for (int j = 0; j < side; j++) {
                divider.divide(rows[k * SIDE + j], common);
            }
        }

        /** The table times row i: what meets it is a number of the bent table. */
        private void leanOn(Table table, int i) {
            for (int k = 0; k < side; k++) {
                lean[k].become(0);
                for (int j = 0; j < side; j++) {
                    product.copy(rows[i * SIDE + j]);
                    product.scaleBy(table.number(k, j));
                    lean[k].add(product, 1);
                }
            }
        }

        private void meet(int k, Big to) {
            to.become(0);
            for (int j = 0; j < side; j++) {
                product.becomeProduct(rows[k * SIDE + j], lean[j]);
                to.add(product, 1);
            }
        }
    }

    /** What hangs together by lines, and how. */
    private static final class Web {
        private final Power power = new Power();
        private final int[] marks = new int[SIDE];

        long closedWalks(Table net, int length) {
            power.begin(net.side);
            for (int step = 0; step < length; step++) {
                power.multiplyBy(net);
            }
            return power.sumBetween();
        }

        int hangTogether(Table net) {
            int many = 0;
            for (int i = 0; i < SIDE; i++) {
                marks[i] = NONE;
            }
            for (int i = 0; i < net.side; i++) {
                if (marks[i] == NONE) {
                    many++;
                    spreadFrom(net, i);
                }
            }
            return many;
        }

        boolean partsInTwo(Table net) {
            hangTogether(net);
            for (int i = 0; i < net.side; i++) {
                for (int k = 0; k < i; k++) {
                    if (net.isTied(i, k) && marks[i] == marks[k]) {
                        return false;
                    }
                }
            }
            return true;
        }

        /** Marks 0 and 1 by turns along the lines; in as many rounds as there are things every one is reached. */
        private void spreadFrom(Table net, int start) {
            marks[start] = 0;
            for (int round = 0; round < net.side; round++) {
                for (int i = 0; i < net.side; i++) {
                    for (int k = 0; k < net.side; k++) {
                        if (marks[i] != NONE && marks[k] == NONE && net.isTied(i, k)) {
                            marks[k] = 1 - marks[i];
                        }
                    }
                }
            }
        }
    }
}
