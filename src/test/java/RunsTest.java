import java.util.ArrayList;
import java.util.List;

/** Long runs of any calls on one object, the same each time: each answer, and fault(), against Model. */
public final class RunsTest {
    private static final int RUNS = 1500;
    /** An object is used for at most so many calls. */
    private static final int CALLS = 512;
    private static final int[] ODD = {-1, -2, 4, 5, 6, 9, 10, 14, 15, 20, 21, 59, 60, 61, 63, 64, 99, 100, 128, -129, 1 << 30,
        Integer.MAX_VALUE, Integer.MIN_VALUE};
    private static final Due due = new Due();
    private static long seed = 20261120;

    private final HeronFord x = new HeronFord();
    private final Model model = new Model();
    private final String name;
    private int calls = 0;
    /** The cells of the latest row of passes: sheet, lane, i, n. */
    private int[] row = {1, 2, 0, 0};

    private RunsTest(int run) {
        name = "run " + run + ", call ";
    }

    public static void main(String[] args) {
        for (int run = 0; run < RUNS; run++) {
            new RunsTest(run).go();
        }
        due.end();
    }

    private static int upTo(int bound) {
        seed = seed * 6364136223846793005L + 1442695040888963407L;
        return (int) ((seed >>> 33) % bound);
    }

    private static int any(int bound) {
        return upTo(16) == 0 ? ODD[upTo(ODD.length)] : upTo(bound);
    }

    private void is(String call, long got, long want) {
        calls++;
        due.is(name + calls + ", " + call, got, want);
    }

    private void go() {
        if (upTo(8) != 0) {
            text();
        }
        while (calls < CALLS - 100) {
            int kind = upTo(16);
            if (kind == 0) {
                row();
            } else if (kind < 10) {
                ask(upTo(10), passes(), any(5), any(5));
            } else if (kind < 12) {
                tellOtherwise(upTo(6));
            } else if (kind < 14) {
                sheets(upTo(6));
            } else {
                parts(upTo(7), any(5));
            }
        }
        is("trace()", x.trace(), model.trace);
        is("fault()", x.fault(), model.fault);
    }

    private void fill(int k, int lane, int i, int[] cells, int behind) {
        is("sheet", x.sheet(k, lane, i + cells.length + behind), model.sheet(k, lane, i + cells.length + behind));
        for (int c = 0; c < cells.length; c++) {
            is("put", x.put(k, i + c, cells[c]), model.put(k, i + c, cells[c]));
        }
    }

    /** A text; one of four has a code that is another one, ends too soon, or has a fish more. */
    private void text() {
        StringBuilder text = new StringBuilder("h").append(upTo(upTo(2) == 0 ? 3 : 10));
        for (int f = upTo(5); f >= 0; f--) {
            text.append(';').append("fep".charAt(upTo(3))).append(1 + upTo(upTo(2) == 0 ? 3 : 9));
            text.append(upTo(10)).append(upTo(7)).append(upTo(6));
        }
        switch (upTo(12)) {
            case 0: text.setCharAt(upTo(text.length()), "hfep;0156789/:x".charAt(upTo(15))); break;
            case 1: text.setLength(upTo(text.length())); break;
            case 2: text.append(";f1000"); break;
            default:
        }
        int k = upTo(4), lane = upTo(3), i = upTo(4), n = text.length();
        fill(k, lane, i, Due.codes(text.toString()), upTo(3));
        is("ford " + text, x.ford(k, lane, i, n), model.ford(k, lane, i, n));
        is("fault() of ford", x.fault(), model.fault);
    }

    /** A row of passes, most of which can be. */
    private void row() {
        List<Integer> codes = new ArrayList<>();
        int length = upTo(upTo(4) == 0 ? 21 : 7);
        for (int tries = 0; tries < 60 && codes.size() < length && model.many(0) > 0; tries++) {
            codes.add(10 * upTo(model.many(0)) + upTo(4));
            if (tries < 58 && !model.canBe(codes)) {
                codes.remove(codes.size() - 1);
            }
        }
        int[] cells = new int[2 * codes.size()];
        for (int c = 0; c < cells.length; c++) {
            cells[c] = c % 2 == 0 ? codes.get(c / 2) / 10 : codes.get(c / 2) % 10;
            cells[c] = upTo(300) == 0 ? any(5) : cells[c];
        }
        row = new int[] {upTo(4), upTo(3), upTo(4), codes.size()};
        fill(row[0], row[1], row[2], cells, upTo(3));
    }

    /** The latest row, or its first ones; now and then others. */
    private int[] passes() {
        int[] cells = row.clone();
        cells[3] = upTo(3) == 0 ? upTo(cells[3] + 1) : cells[3];
        if (upTo(6) == 0) {
            cells[upTo(4)] = any(5);
        }
        return cells;
    }

    private void ask(int call, int[] c, int f, int other) {
        int what = upTo(2) == 0 ? other : 10 + f;
        switch (call) {
            case 0: case 1: is("passes " + what, x.passes(c[0], c[1], c[2], c[3], what), model.passes(c, what)); break;
            case 2: is("owes", x.owes(f, other, c[0], c[1], c[2], c[3]), model.owes(f, other, c)); break;
            case 3: is("toll", x.toll(f, c[0], c[1], c[2], c[3]), model.toll(f, c)); break;
            case 4: is("payments", x.payments(c[0], c[1], c[2], c[3]), model.payments(c)); break;
            case 5: is("wants", x.wants(f, c[0], c[1], c[2], c[3]), model.wants(f, c)); break;
            case 6: is("had", x.had(f, c[0], c[1], c[2], c[3]), model.had(f, c)); break;
            case 7: is("dears", x.dears(c[0], c[1], c[2], c[3]), model.dears(c)); break;
            case 8: is("kinds", x.kinds(f, c[0], c[1], c[2], c[3]), model.kinds(f, c)); break;
            default: is("odds", x.odds(c[0], c[1], c[2], c[3], other % 3), model.odds(c, other % 3));
        }
        is("fault() of " + call, x.fault(), model.fault);
    }

    private void tellOtherwise(int call) {
        int f = any(5), v = any(upTo(2) == 0 ? 100 : 10);
        switch (call) {
            case 0: text(); break;
            case 1: is("dear", x.dear(v), model.dear(v)); break;
            case 2: is("scales", x.scales(f, v), model.scales(f, v)); break;
            case 3: is("hear", x.hear(v), model.hear(v)); break;
            case 4: is("back", x.back(f), model.back(f)); break;
            default: reading(f, v);
        }
        // of the same ways as ahead: what was found for them must not stay
        least(15, any(6) - 1);
    }

    /** Mostly one that is so. */
    private void reading(int f, int v) {
        int left = model.passes(row, 10 + f);
        int read = left >= 0 && upTo(4) != 0 ? left : v;
        is("passes", x.passes(row[0], row[1], row[2], row[3], 10 + f), left);
        is("reading", x.reading(f, read), model.reading(f, read));
    }

    private void sheets(int call) {
        int k = any(4), other = any(4), i = any(12), j = any(12), n = any(12), lane = any(3);
        switch (call) {
            case 0: n = any(61); is("sheet", x.sheet(k, lane, n), model.sheet(k, lane, n)); break;
            case 1: k = any(20); is("lose", x.lose(k), model.lose(k)); break;
            case 2: n = upTo(2) == 0 ? n : upTo(1 << 20) << 11; is("put", x.put(k, i, n), model.put(k, i, n)); break;
            case 3: is("cell", x.cell(k, i, lane), model.cell(k, i, lane)); break;
            case 4: is("copy", x.copy(k, i, k, j, n), model.copy(k, i, k, j, n)); break;
            default: is("copy", x.copy(k, i, other, j, n), model.copy(k, i, other, j, n));
        }
        is("fault() of sheets " + call, x.fault(), model.fault);
    }

    private void parts(int call, int f) {
        int v = any(6);
        switch (call) {
            case 0: is("ofFish", x.ofFish(f, v), model.ofFish(f, v)); break;
            case 1: is("tell", x.tell(f), model.tell(f)); break;
            case 2: is("let", x.let(f), model.let(f)); break;
            case 3: is("as", x.as(f, v % 4), model.as(f, v % 4)); break;
            case 4: is("many", x.many(v), model.many(v)); break;
            case 5: is("trace()", x.trace(), model.trace); break;
            default: least(any(16), v - 1);
        }
        is("fault() of parts " + call, x.fault(), model.fault);
    }

    /** Of four fish at most: Naive tries all rows. */
    private void least(int ways, int k) {
        if (model.many(0) < 5) {
            is("least(" + ways + ", " + k + ")", x.least(ways, k), model.least(ways, k));
        }
    }
}
