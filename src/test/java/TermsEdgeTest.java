import java.util.function.ToLongFunction;

/**
 * The boundary cases of the document's terms, for each call: refusals and faults in their order, that they change nothing,
 * what goes "as passes()", and the most calls.
 */
public final class TermsEdgeTest {
    private static final int UNKNOWN = Edges.UNKNOWN, OUTSIDE = Edges.OUTSIDE, STATE = Edges.STATE, FULL = Edges.FULL;
    private static final int NULL = Edges.NULL, CAST = Edges.CAST, INDEX = Edges.INDEX, SIZE = Edges.SIZE;
    private static final long LOST = Edges.LOST;
    private static final int MOST = Edges.MOST, LEAST = Edges.LEAST;
    private static final String FIVE = Edges.FIVE;

    private static final Edges edges = new Edges(1, 29);

    public static void main(String[] args) {
        constants();
        faultsAndTheirNumbers();
        asPasses();
        asPassesWithoutAFord();
        refusedOfTheFord();
        refusedOfPasses();
        refusedOfReadings();
        refusedOfSheets();
        asked();
        mostCalls();
        edges.end();
    }

    private static void constants() {
        edges.of(1, "the constants", x -> {
            edges.is("UNKNOWN", HeronFord.UNKNOWN, -1);
            edges.is("OUTSIDE", HeronFord.OUTSIDE, -2);
            edges.is("STATE", HeronFord.STATE, -3);
            edges.is("FULL", HeronFord.FULL, -4);
            edges.is("NONE", HeronFord.NONE, -9);
            edges.is("LOST", HeronFord.LOST, -9223372036854775807L - 1);
        });
    }

    private static void faultsAndTheirNumbers() {
        edges.of(28, "1 NULL, 2 CAST, 3 INDEX, 4 SIZE: -10 less it, LOST where a long is answered", x -> {
            edges.is("NULL", x.put(0, 0, 0), -11);
            edges.is("fault()", x.fault(), 1);
            x.sheet(0, 1, 1);
            edges.is("CAST", x.ford(0, 0, 0, 0), -12);
            edges.is("fault()", x.fault(), 2);
            edges.is("INDEX", x.put(0, 1, 0), -13);
            edges.is("fault()", x.fault(), 3);
            edges.is("SIZE", x.sheet(0, 0, -1), -14);
            edges.is("fault()", x.fault(), 4);
            edges.is("a long", x.cell(0, 1, 1), LOST);
            edges.is("fault()", x.fault(), 3);
        });
    }

    // ---- what goes as passes()

    /** A call that goes as passes(), of a FISH, if it tells one. */
    private static long like(HeronFord x, int promise, int f, int sheet, int lane, int i, int n) {
        switch (promise) {
            case 7: return x.passes(sheet, lane, i, n, 1);
            case 8: return x.owes(f, 1, sheet, lane, i, n);
            case 9: return x.toll(f, sheet, lane, i, n);
            case 11: return x.payments(sheet, lane, i, n);
            case 12: return x.wants(f, sheet, lane, i, n);
            case 15: return x.had(f, sheet, lane, i, n);
            case 16: return x.dears(sheet, lane, i, n);
            case 17: return x.kinds(f, sheet, lane, i, n);
            default: return x.odds(sheet, lane, i, n, 1);
        }
    }

    private static final int[] LIKE_PASSES = {7, 8, 9, 11, 12, 15, 16, 17, 18};

    private static boolean tellsAFish(int promise) {
        return promise == 8 || promise == 9 || promise == 12 || promise == 15 || promise == 17;
    }

    /** Each call that goes as passes() answers so, on an object with a FORD and, on SHEET 1, twenty pairs of a LANE. */
    private static void each(String sentence, int answer, int sheet, int lane, int i, int n, int... cells) {
        for (int promise : LIKE_PASSES) {
            edges.of(promise, "as passes(): " + sentence, unused -> {
                HeronFord x = Due.told(FIVE);
                x.sheet(1, 1, 40);
                for (int k = 0; k + 1 < cells.length; k += 2) {
                    x.put(1, cells[k], cells[k + 1]);
                }
                x.as(0, answer == CAST ? 1 : 0);
                x.put(2, 0, 0);
                edges.is("answer", like(x, promise, 0, sheet, lane, i, n), promise == 18 ? LOST : answer);
                edges.is("fault()", x.fault(), answer <= NULL ? -10 - answer : 0);
            });
        }
    }

    private static void taken(String sentence, int sheet, int lane, int i, int n) {
        for (int promise : LIKE_PASSES) {
            edges.of(promise, "as passes(): " + sentence, unused -> {
                HeronFord x = Due.told("h0;e1065;f1065");
                x.sheet(1, 1, 40);
                x.put(2, 0, 0);
                // promises 7, 8, 9, 11, 12, 15, 16, 17, 18: all PASSES are of FISH 0 by SCALES at a TOLL of 0
                int[] answers = {-9, 0, 0, 0, 0, 1023, 1, 6, 1};
                for (int k = 0; k < answers.length; k++) {
                    if (LIKE_PASSES[k] == promise) {
                        int answer = n > 0 ? answers[k] : promise == 17 ? 7 : promise == 16 ? 1023 : answers[k];
                        edges.is("answer", like(x, promise, 0, sheet, lane, i, n), answer);
                    }
                }
                edges.is("fault()", x.fault(), 0);
            });
        }
    }

    private static void asPasses() {
        for (int sheet : new int[] {-1, 4, MOST, LEAST}) {
            each("UNKNOWN: SHEET " + sheet, UNKNOWN, sheet, 1, 0, 1);
        }
        for (int lane : new int[] {-1, 3, MOST, LEAST}) {
            each("OUTSIDE: lane " + lane, OUTSIDE, 1, lane, 0, 1);
        }
        for (int n : new int[] {-1, 21, 1 << 30, MOST, LEAST}) {
            each("OUTSIDE: n " + n, OUTSIDE, 1, 1, 0, n);
        }
        taken("n 0", 1, 1, 0, 0);
        taken("n 20", 1, 1, 0, 20);
        taken("none, from the end on", 1, 1, 40, 0);
        taken("the last one", 1, 1, 38, 1);
        each("UNKNOWN ahead of OUTSIDE", UNKNOWN, 4, 3, 0, 21);
        each("OUTSIDE: lane ahead of NULL", OUTSIDE, 2, 3, -1, 0);
        each("OUTSIDE: n ahead of NULL", OUTSIDE, 2, 0, -1, 21);
        each("OUTSIDE: n ahead of CAST", OUTSIDE, 1, 0, -1, -1);
        each("NULL ahead of INDEX, no CAST", NULL, 2, 0, -1, 1);
        each("CAST ahead of INDEX", CAST, 1, 2, -1, 1);
        each("CAST ahead of INDEX", CAST, 1, 0, 41, 0);
        for (int i : new int[] {-1, 39, 40, 41, MOST, LEAST}) {
            each("INDEX: one from " + i + " on", INDEX, 1, 1, i, 1);
        }
        for (int i : new int[] {-1, 41, MOST, LEAST}) {
            each("INDEX: none from " + i + " on", INDEX, 1, 1, i, 0);
        }
        each("INDEX: twenty from 1 on", INDEX, 1, 1, 1, 20);
        each("INDEX: twenty from far off on", INDEX, 1, 1, MOST - 38, 20);
        each("INDEX ahead of pairs", INDEX, 1, 1, 38, 2, 38, 9);
        each("UNKNOWN: FISH of the first pair", UNKNOWN, 1, 1, 0, 20, 0, 5);
        each("UNKNOWN: FISH of the last pair", UNKNOWN, 1, 1, 0, 20, 38, -1);
        each("OUTSIDE: how of the first pair", OUTSIDE, 1, 1, 0, 20, 1, 4);
        each("OUTSIDE: how of the last pair", OUTSIDE, 1, 1, 0, 20, 39, -1);
        each("pair by pair: UNKNOWN ahead of OUTSIDE", UNKNOWN, 1, 1, 0, 20, 2, 5, 3, 4, 5, 4);
        each("pair by pair: the first one's OUTSIDE", OUTSIDE, 1, 1, 0, 20, 3, 4, 4, 5);
        each("all of them, ahead of any act", OUTSIDE, 1, 1, 0, 20, 0, 3, 1, 1, 39, 4);
    }

    private static void asPassesWithoutAFord() {
        for (int promise : LIKE_PASSES) {
            boolean fish = tellsAFish(promise);
            long lost = promise == 18 ? LOST : STATE;
            edges.of(promise, "as passes(): STATE: there is no FORD, ahead of pairs", x -> {
                Due.fill(x, 1, 2, 9, 9);
                edges.is("of a pair", like(x, promise, 0, 1, 2, 0, 1), fish ? UNKNOWN : lost);
                edges.is("of none", like(x, promise, 0, 1, 2, 2, 0), fish ? UNKNOWN : lost);
                edges.is("fault()", x.fault(), 0);
            });
            edges.of(promise, "as passes(): without a FORD FAULTS ahead of STATE", x -> {
                x.sheet(1, 2, 2);
                edges.is("NULL", like(x, promise, 0, 0, 2, 0, 1), fish ? UNKNOWN : promise == 18 ? LOST : NULL);
                edges.is("fault()", x.fault(), fish ? 0 : 1);
                edges.is("CAST", like(x, promise, 0, 1, 1, 0, 1), fish ? UNKNOWN : promise == 18 ? LOST : CAST);
                edges.is("fault()", x.fault(), fish ? 0 : 2);
                edges.is("INDEX", like(x, promise, 0, 1, 2, 1, 1), fish ? UNKNOWN : promise == 18 ? LOST : INDEX);
                edges.is("fault()", x.fault(), fish ? 0 : 3);
            });
        }
    }

    // ---- refusals and faults change nothing

    /** An object that has something of all: a FORD told otherwise, READINGS, SHEETS of each LANE, TRACE, a FAULT. */
    private static HeronFord rich() {
        HeronFord x = Due.told(FIVE);
        x.dear(3);
        x.scales(2, 50);
        x.hear(18);
        x.reading(0, 9);
        x.reading(3, 1);
        Due.fill(x, 0, 0, Due.codes("h0;e9065;"));
        Due.fill(x, 1, 1, 0, 0, 3, 3, 0, 9);
        Due.fill(x, 2, 2, 3, 1, 9, 0);
        x.tell(2);
        x.let(2);
        x.as(0, 1);
        return x;
    }

    /** All that can be seen of an object, in fewer than 200 calls; asking changes fault(), so that it is asked first. */
    private static String seen(HeronFord x) {
        StringBuilder seen = new StringBuilder("trace " + x.trace());
        for (int what = 0; what < 4; what++) {
            seen.append(", many ").append(x.many(what));
        }
        for (int f = 0; f < x.many(0); f++) {
            for (int what = 0; what < 5; what++) {
                seen.append(what == 0 ? ", fish " : " ").append(x.ofFish(f, what));
            }
        }
        for (int k = 0; k < 4; k++) {
            for (int lane = 0; lane < 3; lane++) {
                x.cell(k, -1, lane);
                seen.append(lane == 0 ? ", sheet " : " ").append(x.fault());
                for (int i = 0; i < 60 && x.fault() != 1 && x.fault() != 2; i++) {
                    seen.append(' ').append(x.cell(k, i, lane));
                    i += x.fault() == 3 ? 60 : 0;
                }
            }
        }
        for (int f = 0; f < x.many(0); f++) {
            seen.append(", had ").append(x.had(f, 1, 1, 0, 0));
        }
        return seen.append(", least ").append(x.least(15, -1)).append(' ').append(x.least(15, 0)).toString();
    }

    /** A call that is refused, or comes to a FAULT: it answers so, and changes nothing but what fault() tells. */
    private static void refused(int promise, String call, boolean namesOne, int answer, ToLongFunction<HeronFord> calling) {
        edges.of(promise, "they change nothing: " + call, unused -> {
            HeronFord x = rich();
            String ahead = seen(x);
            x.as(0, 1);
            edges.is("fault() ahead", x.fault(), 2);
            boolean isLong = promise == 18 || promise == 22;
            edges.is(call, calling.applyAsLong(x), isLong ? LOST : answer);
            edges.is("fault()", x.fault(), !namesOne ? 2 : answer <= NULL && answer >= SIZE ? -10 - answer : 0);
            edges.same("the object", seen(x), ahead);
        });
    }

    private static void refusedOfTheFord() {
        refused(2, "ford(4, ..)", true, UNKNOWN, x -> x.ford(4, 0, 0, 8));
        refused(2, "ford, lane 3", true, OUTSIDE, x -> x.ford(0, 3, 0, 8));
        refused(2, "ford of nothing", true, NULL, x -> x.ford(3, 0, 0, 8));
        refused(2, "ford of another LANE", true, CAST, x -> x.ford(0, 1, 0, 8));
        refused(2, "ford, n -1", true, SIZE, x -> x.ford(0, 0, 0, -1));
        refused(2, "ford, too far", true, INDEX, x -> x.ford(0, 0, 1, 9));
        refused(2, "ford, a FIRST FAULT at the end", true, -109, x -> x.ford(0, 0, 0, 9));
        refused(2, "ford, a FIRST FAULT", true, -100, x -> x.ford(0, 0, 2, 7));
        refused(3, "ofFish(5, 0)", false, UNKNOWN, x -> x.ofFish(5, 0));
        refused(3, "ofFish(0, 6)", false, OUTSIDE, x -> x.ofFish(0, 6));
        refused(4, "dear(10)", false, OUTSIDE, x -> x.dear(10));
        refused(4, "dear(-1)", false, OUTSIDE, x -> x.dear(-1));
        refused(5, "scales(5, 1)", false, UNKNOWN, x -> x.scales(5, 1));
        refused(5, "scales(0, 100)", false, OUTSIDE, x -> x.scales(0, 100));
        refused(5, "scales(0, -1)", false, OUTSIDE, x -> x.scales(0, -1));
        refused(6, "hear(64)", false, OUTSIDE, x -> x.hear(64));
        refused(6, "hear(-1)", false, OUTSIDE, x -> x.hear(-1));
        refused(10, "least(15, -2)", false, UNKNOWN, x -> x.least(15, -2));
        refused(10, "least(16, -1)", false, OUTSIDE, x -> x.least(16, -1));
        refused(10, "least(0, -1)", false, OUTSIDE, x -> x.least(0, -1));
    }

    private static void refusedOfPasses() {
        for (int promise : LIKE_PASSES) {
            refused(promise, "SHEET 4", true, UNKNOWN, x -> like(x, promise, 0, 4, 1, 0, 1));
            refused(promise, "lane 3", true, OUTSIDE, x -> like(x, promise, 0, 1, 3, 0, 1));
            refused(promise, "n 21", true, OUTSIDE, x -> like(x, promise, 0, 1, 1, 0, 21));
            refused(promise, "nothing", true, NULL, x -> like(x, promise, 0, 3, 1, 0, 1));
            refused(promise, "another LANE", true, CAST, x -> like(x, promise, 0, 1, 2, 0, 1));
            refused(promise, "too far", true, INDEX, x -> like(x, promise, 0, 1, 1, 5, 1));
            refused(promise, "no such FISH, behind PASSES", true, UNKNOWN, x -> like(x, promise, 0, 2, 2, 0, 2));
            refused(promise, "no such how, behind PASSES", true, OUTSIDE, x -> like(x, promise, 0, 1, 1, 0, 3));
            if (tellsAFish(promise)) {
                refused(promise, "FISH 5", true, UNKNOWN, x -> like(x, promise, 5, 1, 1, 0, 1));
            }
        }
        refused(7, "what 5", true, OUTSIDE, x -> x.passes(1, 1, 0, 1, 5));
        refused(8, "other 5", true, UNKNOWN, x -> x.owes(0, 5, 1, 1, 0, 1));
        refused(18, "which 2", true, OUTSIDE, x -> x.odds(1, 1, 0, 1, 2));
        refused(7, "passes, a FIRST WRONG", true, -100, x -> x.passes(2, 2, 0, 1, 0));
        refused(8, "owes, a FIRST WRONG", true, -100, x -> x.owes(0, 1, 2, 2, 0, 1));
        refused(9, "toll, a FIRST WRONG", true, -100, x -> x.toll(0, 2, 2, 0, 1));
        refused(11, "payments, a FIRST WRONG", true, -100, x -> x.payments(2, 2, 0, 1));
        refused(12, "wants, NONE", true, Edges.NONE, x -> x.wants(0, 2, 2, 0, 1));
    }

    private static void refusedOfReadings() {
        refused(13, "reading(5, 0)", false, UNKNOWN, x -> x.reading(5, 0));
        refused(13, "reading(0, 100)", false, OUTSIDE, x -> x.reading(0, 100));
        refused(13, "reading(0, -1)", false, OUTSIDE, x -> x.reading(0, -1));
        refused(14, "back(3)", false, OUTSIDE, x -> x.back(3));
        refused(14, "back(-1)", false, OUTSIDE, x -> x.back(-1));
        edges.of(13, "they change nothing: FULL", unused -> {
            HeronFord x = rich();
            for (int k = 2; k < 8; k++) {
                x.reading(1, 9);
            }
            String ahead = seen(x);
            x.as(0, 1);
            edges.is("reading", x.reading(1, 0), FULL);
            edges.is("fault()", x.fault(), 2);
            edges.same("the object", seen(x), ahead);
        });
    }

    private static void refusedOfSheets() {
        refused(19, "sheet(4, 0, 1)", true, UNKNOWN, x -> x.sheet(4, 0, 1));
        refused(19, "sheet(0, 3, 1)", true, OUTSIDE, x -> x.sheet(0, 3, 1));
        refused(19, "sheet(0, 0, 61)", true, OUTSIDE, x -> x.sheet(0, 0, 61));
        refused(19, "sheet(0, 1, -1)", true, SIZE, x -> x.sheet(0, 1, -1));
        refused(20, "lose(4)", false, UNKNOWN, x -> x.lose(4));
        refused(20, "lose(3), which has nothing", false, 0, x -> x.lose(3));
        refused(21, "put(4, 0, 1)", true, UNKNOWN, x -> x.put(4, 0, 1));
        refused(21, "put(3, 0, 1)", true, NULL, x -> x.put(3, 0, 1));
        refused(21, "put(1, 6, 1)", true, INDEX, x -> x.put(1, 6, 1));
        refused(21, "put(1, -1, 1)", true, INDEX, x -> x.put(1, -1, 1));
        refused(22, "cell(4, 0, 0)", true, UNKNOWN, x -> x.cell(4, 0, 0));
        refused(22, "cell(0, 0, 3)", true, OUTSIDE, x -> x.cell(0, 0, 3));
        refused(22, "cell(3, 0, 0)", true, NULL, x -> x.cell(3, 0, 0));
        refused(22, "cell(0, 0, 1)", true, CAST, x -> x.cell(0, 0, 1));
        refused(22, "cell(0, 9, 0)", true, INDEX, x -> x.cell(0, 9, 0));
        refused(23, "copy(4, ..)", true, UNKNOWN, x -> x.copy(4, 0, 1, 0, 1));
        refused(23, "copy(.., 4, ..)", true, UNKNOWN, x -> x.copy(1, 0, 4, 0, 1));
        refused(23, "copy of nothing", true, NULL, x -> x.copy(3, 0, 1, 0, 1));
        refused(23, "copy to nothing", true, NULL, x -> x.copy(1, 0, 3, 0, 1));
        refused(23, "copy to another LANE", true, CAST, x -> x.copy(1, 0, 2, 0, 1));
        refused(23, "copy, too many", true, INDEX, x -> x.copy(1, 1, 1, 0, 6));
        refused(23, "copy, too far", true, INDEX, x -> x.copy(1, 0, 1, 1, 6));
        refused(23, "copy, n -1", true, INDEX, x -> x.copy(1, 1, 1, 0, -1));
        refused(24, "tell(5)", false, UNKNOWN, x -> x.tell(5));
        refused(25, "let(5)", false, UNKNOWN, x -> x.let(5));
        refused(26, "as(5, 0)", true, UNKNOWN, x -> x.as(5, 0));
        refused(26, "as(0, 3)", true, OUTSIDE, x -> x.as(0, 3));
        refused(26, "as(1, 2)", true, CAST, x -> x.as(1, 2));
        refused(29, "many(4)", false, OUTSIDE, x -> x.many(4));
    }

    /** Calls that only ask change nothing, either. */
    private static void asked() {
        for (int promise : LIKE_PASSES) {
            edges.of(promise, "what is told stays, behind PASSES that can be", unused -> {
                HeronFord x = rich();
                String ahead = seen(x);
                long answer = like(x, promise, 0, 1, 1, 0, 2);
                edges.is("fault()", x.fault(), 0);
                edges.same("the object", seen(x), ahead);
                edges.is("the same again", like(x, promise, 0, 1, 1, 0, 2), answer);
            });
        }
        edges.of(27, "trace(), fault(), many(), ofFish(), least() change nothing", unused -> {
            HeronFord x = rich();
            String ahead = seen(x);
            x.trace();
            x.fault();
            x.many(0);
            x.ofFish(0, 0);
            x.least(1, -1);
            edges.same("the object", seen(x), ahead);
        });
    }

    private static void mostCalls() {
        edges.of(10, "at most 512 calls: the least of another FORD each time", x -> {
            Due.tell(x, "h0;e1065;p2065;f3065;p4065;e5065");
            for (int f = 0; f < 5; f++) {
                x.scales(f, 99);
            }
            // 39 calls till here; sharing is 0, 0, 3, 1, 4
            for (int calls = 39; calls + 2 <= 512; calls += 2) {
                int v = calls % 10;
                x.dear(v);
                edges.is("the least at " + v, x.least(15, -1), 8 + 5 * v);
            }
        });
        edges.of(12, "at most 512 calls: wants of twenty PASSES", x -> {
            Due.tell(x, "h0;e1065;f1065");
            Due.row(x, new int[40]);
            x.put(1, 38, 1);
            x.put(1, 39, 1);
            for (int calls = 60; calls < 512; calls++) {
                edges.is("wants", x.wants(1, 1, 2, 0, 20), Edges.NONE);
            }
        });
        edges.of(18, "at most 512 calls: odds of twenty PASSES", x -> {
            Due.tell(x, "h0;e1005;f1065");
            Due.row(x, new int[40]);
            x.put(1, 39, 1);
            for (int calls = 60; calls < 512; calls++) {
                edges.is("odds", x.odds(1, 2, 0, 20, 1), 2);
            }
        });
        edges.of(27, "at most 512 calls: TRACE of as many PIKES as can be told", x -> {
            Due.tell(x, "h0;p1000");
            int trace = 0;
            for (int calls = 11; calls < 511; calls++) {
                edges.is("tell(0)", x.tell(0), 102);
                trace = (((31 * trace + 3) * 31 + 2) * 31 + 1) * 31 + 1;
            }
            edges.is("trace()", x.trace(), trace);
        });
    }
}
