import java.util.ArrayDeque;
import java.util.ArrayList;
import java.util.Arrays;
import java.util.Deque;
import java.util.List;

/** The whole face once more, from the document's words: what RunsTest holds the class against. Naive walks its passes. */
final class Model {
    static final int UNKNOWN = -1, OUTSIDE = -2, STATE = -3, FULL = -4, NONE = -9;
    static final long LOST = Long.MIN_VALUE;
    private static final int NULL = 1, CAST = 2, INDEX = 3, SIZE = 4;
    private static final String WHOLE = "h[0-9](;[fep][1-9][0-9][0-6][0-5]){1,5}";
    private static final String LONGEST = "h0;f1000;f1000;f1000;f1000;f1000";

    final int[][] rows = new int[4][];
    final int[] lanes = new int[4];
    final Deque<int[]> readings = new ArrayDeque<>();
    int[] scales = {};
    String text = "";
    int dear;
    int known;
    int trace;
    int fault;
    /** The passes of the latest check() that took them, as codes. */
    private List<Integer> passes = new ArrayList<>();

    private static boolean in(int v, int from, int to) {
        return from <= v && v <= to;
    }

    boolean isFish(int f) {
        return in(f, 0, scales.length - 1);
    }

    private int comesTo(int found) {
        fault = found;
        return -10 - found;
    }

    private Naive naive() {
        Naive naive = new Naive(text);
        naive.dear = dear;
        naive.known = known;
        for (int f = 0; f < scales.length; f++) {
            naive.fish[f][1] = scales[f];
        }
        return naive;
    }

    /** Whether passes, as codes, can be. */
    boolean canBe(List<Integer> codes) {
        return naive().walk(codes) == NONE;
    }

    // ---- 1 the ford

    int ford(int sheet, int lane, int i, int n) {
        fault = 0;
        if (!in(sheet, 0, 3)) {
            return UNKNOWN;
        }
        if (!in(lane, 0, 2)) {
            return OUTSIDE;
        }
        int[] row = rows[sheet];
        if (row != null && lanes[sheet] != lane) {
            return comesTo(CAST);
        }
        if (row == null) {
            return comesTo(NULL);
        }
        if (n < 0) {
            return comesTo(SIZE);
        }
        if (i < 0 || (long) i + n > row.length) {
            return comesTo(INDEX);
        }
        StringBuilder codes = new StringBuilder();
        for (int k = i; k < i + n; k++) {
            codes.append(in(row[k], 1, 127) ? (char) row[k] : '?');
        }
        return told(codes.toString());
    }

    private int told(String codes) {
        if (!codes.matches(WHOLE)) {
            int place = 0;
            while (place < codes.length() && goesOn(codes.substring(0, place + 1))) {
                place++;
            }
            return -100 - place;
        }
        text = codes;
        dear = codes.charAt(1) - '0';
        known = 0;
        readings.clear();
        Naive naive = new Naive(codes);
        scales = new int[naive.fish.length];
        for (int f = 0; f < scales.length; f++) {
            scales[f] = naive.fish[f][1];
        }
        return scales.length;
    }

    private static boolean goesOn(String head) {
        return head.length() <= LONGEST.length() && (head + LONGEST.substring(head.length())).matches(WHOLE);
    }

    private int kind(int f) {
        return "fep".indexOf(text.charAt(3 + 6 * f));
    }

    int ofFish(int f, int what) {
        if (!isFish(f)) {
            return UNKNOWN;
        }
        Naive naive = naive();
        int[] fish = naive.fish[f];
        naive.dear = 0;
        naive.walk(new ArrayList<>());
        int[] answers = {kind(f), fish[0], fish[1], fish[2], fish[3], naive.toll(f)};
        return in(what, 0, 5) ? answers[what] : OUTSIDE;
    }

    int dear(int v) {
        int was = dear;
        if (!in(v, 0, 9)) {
            return OUTSIDE;
        }
        if (scales.length == 0) {
            return STATE;
        }
        dear = v;
        return was;
    }

    int scales(int f, int v) {
        if (!isFish(f) || !in(v, 0, 99)) {
            return isFish(f) ? OUTSIDE : UNKNOWN;
        }
        int was = scales[f];
        scales[f] = v;
        return was;
    }

    int hear(int set) {
        int was = known;
        if (!in(set, 0, 63)) {
            return OUTSIDE;
        }
        if (scales.length == 0) {
            return STATE;
        }
        known = set;
        return was;
    }

    // ---- 2 passes, 3 the least, payments

    /** What a call answers for passes that it does not take; 0: it takes them. */
    private int check(int sheet, int lane, int i, int n, boolean restAsTold) {
        fault = 0;
        if (!in(sheet, 0, 3)) {
            return UNKNOWN;
        }
        if (!in(lane, 0, 2) || !in(n, 0, 20) || !restAsTold) {
            return OUTSIDE;
        }
        int[] row = rows[sheet];
        if (row != null && lanes[sheet] != lane) {
            return comesTo(CAST);
        }
        if (row == null) {
            return comesTo(NULL);
        }
        if (i < 0 || (long) i + 2 * n > row.length) {
            return comesTo(INDEX);
        }
        if (scales.length == 0) {
            return STATE;
        }
        passes = new ArrayList<>();
        for (int k = i; k < i + 2 * n; k += 2) {
            if (!isFish(row[k])) {
                return UNKNOWN;
            }
            if (!in(row[k + 1], 0, 3)) {
                return OUTSIDE;
            }
            passes.add(10 * row[k] + row[k + 1]);
        }
        return 0;
    }

    private int checkWithFish(int f, int[] cells) {
        fault = 0;
        return isFish(f) ? check(cells[0], cells[1], cells[2], cells[3], true) : UNKNOWN;
    }

    int passes(int[] cells, int what) {
        int refusal = check(cells[0], cells[1], cells[2], cells[3], in(what, 0, 4) || in(what, 10, 14));
        if (refusal != 0) {
            return refusal;
        }
        Naive naive = naive();
        int wrong = naive.walk(passes);
        if (what == 1 || wrong != NONE) {
            return what == 1 ? wrong : -100 - wrong;
        }
        int above = 0;
        for (int f = 0; f < scales.length; f++) {
            above += naive.above[f] ? 1 << f : 0;
        }
        int[] answers = {naive.got, wrong, naive.heard, naive.harmed, above};
        return what < 10 ? answers[what] : isFish(what - 10) ? naive.scales[what - 10] : NONE;
    }

    int owes(int f, int other, int[] cells) {
        int refusal = checkWithFish(isFish(other) ? f : -1, cells);
        Naive naive = refusal == 0 ? naive() : null;
        int wrong = refusal == 0 ? naive.walk(passes) : 0;
        return refusal != 0 ? refusal : wrong != NONE ? -100 - wrong : naive.owed[f][other];
    }

    int toll(int f, int[] cells) {
        int refusal = checkWithFish(f, cells);
        Naive naive = refusal == 0 ? naive() : null;
        int wrong = refusal == 0 ? naive.walk(passes) : 0;
        return refusal != 0 ? refusal : wrong != NONE ? -100 - wrong : naive.toll(f);
    }

    int payments(int[] cells) {
        int refusal = check(cells[0], cells[1], cells[2], cells[3], true);
        Naive naive = refusal == 0 ? naive() : null;
        int wrong = refusal == 0 ? naive.walk(passes) : 0;
        return refusal != 0 ? refusal : wrong != NONE ? -100 - wrong : naive.payments();
    }

    int least(int ways, int k) {
        if (k < -1) {
            return UNKNOWN;
        }
        if (!in(ways, 1, 15)) {
            return OUTSIDE;
        }
        if (scales.length == 0) {
            return STATE;
        }
        List<Integer> best = naive().least(ways);
        return k < best.size() - 1 ? best.get(k + 1) : NONE;
    }

    int wants(int f, int[] cells) {
        int refusal = checkWithFish(f, cells);
        for (int more = 0; more <= 99 && refusal == 0; more++) {
            Naive naive = naive();
            naive.fish[f][1] += more;
            if (naive.walk(passes) == NONE) {
                return more;
            }
        }
        return refusal != 0 ? refusal : NONE;
    }

    // ---- 4 what was left

    int reading(int f, int v) {
        if (!isFish(f) || !in(v, 0, 99)) {
            return isFish(f) ? OUTSIDE : UNKNOWN;
        }
        if (readings.size() == 8) {
            return FULL;
        }
        readings.addLast(new int[] {f, v});
        return readings.size() - 1;
    }

    int back(int k) {
        if (!in(k, 0, readings.size())) {
            return OUTSIDE;
        }
        for (int last = 0; last < k; last++) {
            readings.removeLast();
        }
        return readings.size();
    }

    private int bitIfSo(Naive naive, int bit) {
        boolean so = naive.walk(passes) == NONE;
        for (int[] reading : readings) {
            so = so && naive.scales[reading[0]] == reading[1];
        }
        return so ? 1 << bit : 0;
    }

    int had(int f, int[] cells) {
        int refusal = checkWithFish(f, cells);
        int set = 0;
        for (int v = 0; v <= 9 && refusal == 0; v++) {
            Naive naive = naive();
            naive.fish[f][1] = v;
            set += bitIfSo(naive, v);
        }
        return refusal != 0 ? refusal : set;
    }

    int dears(int[] cells) {
        int refusal = check(cells[0], cells[1], cells[2], cells[3], true);
        int set = 0;
        for (int v = 0; v <= 9 && refusal == 0; v++) {
            Naive naive = naive();
            naive.dear = v;
            set += bitIfSo(naive, v);
        }
        return refusal != 0 ? refusal : set;
    }

    int kinds(int f, int[] cells) {
        int refusal = checkWithFish(f, cells);
        String own = text;
        int set = 0;
        for (int kind = 0; kind <= 2 && refusal == 0; kind++) {
            text = own.substring(0, 3 + 6 * f) + "fep".charAt(kind) + own.substring(4 + 6 * f);
            set += bitIfSo(naive(), kind);
        }
        text = own;
        return refusal != 0 ? refusal : set;
    }

    long odds(int[] cells, int which) {
        if (check(cells[0], cells[1], cells[2], cells[3], in(which, 0, 1)) != 0) {
            return LOST;
        }
        int upper = 0;
        for (int set = 0; set < 64; set++) {
            Naive naive = naive();
            naive.known = set;
            upper += naive.walk(passes) == NONE ? 1 : 0;
        }
        int both = 64;
        while (upper % both != 0) {
            both /= 2;
        }
        return (which == 0 ? upper : 64) / both;
    }

    // ---- 5 sheets, parts

    int sheet(int k, int lane, int n) {
        fault = 0;
        if (!in(k, 0, 3)) {
            return UNKNOWN;
        }
        if (!in(lane, 0, 2) || n > 60) {
            return OUTSIDE;
        }
        if (n < 0) {
            return comesTo(SIZE);
        }
        rows[k] = new int[n];
        lanes[k] = lane;
        return 1;
    }

    int lose(int k) {
        if (!in(k, 0, 3)) {
            return UNKNOWN;
        }
        int had = rows[k] == null ? 0 : 1;
        rows[k] = null;
        return had;
    }

    int put(int k, int i, int v) {
        fault = 0;
        if (!in(k, 0, 3)) {
            return UNKNOWN;
        }
        if (rows[k] == null) {
            return comesTo(NULL);
        }
        if (!in(i, 0, rows[k].length - 1)) {
            return comesTo(INDEX);
        }
        rows[k][i] = lanes[k] == 0 ? (byte) v : lanes[k] == 1 ? (short) v : v;
        return 1;
    }

    long cell(int k, int i, int lane) {
        fault = 0;
        if (!in(k, 0, 3) || !in(lane, 0, 2)) {
            return LOST;
        }
        if (rows[k] == null) {
            fault = NULL;
        } else if (lanes[k] != lane) {
            fault = CAST;
        } else if (!in(i, 0, rows[k].length - 1)) {
            fault = INDEX;
        }
        return fault == 0 ? rows[k][i] : LOST;
    }

    int copy(int k, int i, int other, int j, int n) {
        fault = 0;
        if (!in(k, 0, 3) || !in(other, 0, 3)) {
            return UNKNOWN;
        }
        if (rows[k] == null || rows[other] == null) {
            return comesTo(NULL);
        }
        if (lanes[k] != lanes[other]) {
            return comesTo(CAST);
        }
        boolean below = i < 0 || j < 0 || n < 0;
        if (below || (long) i + n > rows[k].length || (long) j + n > rows[other].length) {
            return comesTo(INDEX);
        }
        int[] cells = Arrays.copyOfRange(rows[k], i, i + n);
        for (int c = 0; c < n; c++) {
            rows[other][j + c] = cells[c];
        }
        return n;
    }

    private int leaves(int... numbers) {
        for (int number : numbers) {
            trace = 31 * trace + number;
        }
        return 0;
    }

    int tell(int f) {
        if (!isFish(f)) {
            return UNKNOWN;
        }
        int size = text.charAt(4 + 6 * f) - '0';
        switch (kind(f)) {
            case 0: return leaves(1) + size;
            case 1: return leaves(2, 1) + size + 100;
            default: return leaves(3, 2, 1, 1) + size + 100 + size;
        }
    }

    int let(int f) {
        if (!isFish(f)) {
            return UNKNOWN;
        }
        return kind(f) == 2 ? leaves(5) + 90 : leaves(4) + f;
    }

    int as(int f, int kind) {
        fault = 0;
        if (!isFish(f) || !in(kind, 0, 2)) {
            return isFish(f) ? OUTSIDE : UNKNOWN;
        }
        return kind <= kind(f) ? 1 : comesTo(CAST);
    }

    int many(int what) {
        int[] answers = {scales.length, dear, known, readings.size()};
        return in(what, 0, 3) ? answers[what] : OUTSIDE;
    }
}
