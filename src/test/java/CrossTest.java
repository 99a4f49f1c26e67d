import java.util.ArrayList;
import java.util.List;

/** Many fords and rows, the same each time: the class against Naive, and its calls against one another. */
public final class CrossTest {
    private static final Due due = new Due();
    private static long seed = 20261119;

    public static void main(String[] args) {
        for (int run = 0; run < 1500; run++) {
            String text = text(1 + upTo(5));
            List<Integer> row = row(text, upTo(9));
            passes(text, row);
            wants(text, row);
            readings(text, row);
            odds(text, row);
        }
        for (int run = 0; run < 120; run++) {
            least(text(1 + upTo(run % 8 == 0 ? 5 : 4)));
        }
        due.end();
    }

    private static int upTo(int bound) {
        seed = seed * 6364136223846793005L + 1442695040888963407L;
        return (int) ((seed >>> 33) % bound);
    }

    private static String text(int fish) {
        StringBuilder text = new StringBuilder("h").append(upTo(4) == 0 ? upTo(10) : upTo(3));
        for (int f = 0; f < fish; f++) {
            text.append(';').append("fep".charAt(upTo(3))).append(1 + upTo(upTo(2) == 0 ? 9 : 4));
            text.append(upTo(10)).append(upTo(7)).append(upTo(6));
        }
        return text.toString();
    }

    /** Passes as codes; most rows go on as long as they can be. */
    private static List<Integer> row(String text, int length) {
        Naive naive = new Naive(text);
        List<Integer> row = new ArrayList<>();
        for (int tries = 0; tries < 40 && row.size() < length; tries++) {
            row.add(10 * upTo(naive.fish.length) + upTo(4));
            if (naive.walk(row) != -9 && tries < 38) {
                row.remove(row.size() - 1);
            }
        }
        return row;
    }

    private static int told(HeronFord x, List<Integer> row) {
        return Due.row(x, row.stream().flatMapToInt(c -> java.util.stream.IntStream.of(c / 10, c % 10)).toArray());
    }

    private static void passes(String text, List<Integer> row) {
        HeronFord x = Due.told(text);
        Naive naive = new Naive(text);
        naive.known = upTo(3) == 0 ? upTo(64) : 0;
        x.hear(naive.known);
        int n = told(x, row);
        int wrong = naive.walk(row);
        int count = naive.fish.length;
        String call = text + " " + row + " ";
        due.is(call + "first wrong", x.passes(1, 2, 0, n, 1), wrong);
        int above = 0;
        for (int f = 0; f < count; f++) {
            above |= naive.above[f] ? 1 << f : 0;
            due.is(call + "scales of " + f, x.passes(1, 2, 0, n, 10 + f), wrong == -9 ? naive.scales[f] : -100 - wrong);
            due.is(call + "toll of " + f, x.toll(f, 1, 2, 0, n), wrong == -9 ? naive.toll(f) : -100 - wrong);
            for (int other = 0; other < count; other++) {
                due.is(call + "owes", x.owes(f, other, 1, 2, 0, n), wrong == -9 ? naive.owed[f][other] : -100 - wrong);
            }
        }
        due.is(call + "got", x.passes(1, 2, 0, n, 0), wrong == -9 ? naive.got : -100 - wrong);
        due.is(call + "known", x.passes(1, 2, 0, n, 2), wrong == -9 ? naive.heard : -100 - wrong);
        due.is(call + "harmed", x.passes(1, 2, 0, n, 3), wrong == -9 ? naive.harmed : -100 - wrong);
        due.is(call + "above", x.passes(1, 2, 0, n, 4), wrong == -9 ? above : -100 - wrong);
        due.is(call + "payments", x.payments(1, 2, 0, n), wrong == -9 ? naive.payments() : -100 - wrong);
    }

    private static void wants(String text, List<Integer> row) {
        HeronFord x = Due.told(text);
        Naive naive = new Naive(text);
        int n = told(x, row);
        for (int f = 0; f < naive.fish.length; f++) {
            int had = naive.fish[f][1];
            int wants = -9;
            for (int more = 99; more >= 0; more--) {
                naive.fish[f][1] = had + more;
                wants = naive.walk(row) == -9 ? more : wants;
            }
            naive.fish[f][1] = had;
            due.is(text + " " + row + " wants of " + f, x.wants(f, 1, 2, 0, n), wants);
        }
    }

    private static boolean areSo(HeronFord x, int n, int[][] readings) {
        boolean so = x.passes(1, 2, 0, n, 1) == -9;
        for (int[] reading : readings) {
            so = so && x.passes(1, 2, 0, n, 10 + reading[0]) == reading[1];
        }
        return so;
    }

    private static void readings(String text, List<Integer> row) {
        Naive naive = new Naive(text);
        naive.walk(row);
        int count = naive.fish.length;
        int[][] readings = new int[upTo(3)][];
        HeronFord x = Due.told(text);
        int n = told(x, row);
        for (int r = 0; r < readings.length; r++) {
            int f = upTo(count);
            readings[r] = new int[] {f, upTo(5) == 0 ? upTo(10) : naive.scales[f]};
            due.is("reading", x.reading(readings[r][0], readings[r][1]), r);
        }
        String call = text + " " + row + " ";
        int f = upTo(count);
        int had = 0;
        int dears = 0;
        int kinds = 0;
        for (int v = 0; v < 10; v++) {
            int was = x.scales(f, v);
            had |= areSo(x, n, readings) ? 1 << v : 0;
            x.scales(f, was);
            was = x.dear(v);
            dears |= areSo(x, n, readings) ? 1 << v : 0;
            x.dear(was);
        }
        for (int kind = 0; kind < 3; kind++) {
            char[] other = text.toCharArray();
            other[3 + 6 * f] = "fep".charAt(kind);
            HeronFord y = Due.told(new String(other));
            told(y, row);
            kinds |= areSo(y, n, readings) ? 1 << kind : 0;
        }
        due.is(call + "had of " + f, x.had(f, 1, 2, 0, n), had);
        due.is(call + "dears", x.dears(1, 2, 0, n), dears);
        due.is(call + "kinds of " + f, x.kinds(f, 1, 2, 0, n), kinds);
    }

    private static void odds(String text, List<Integer> row) {
        HeronFord x = Due.told(text);
        int n = told(x, row);
        int upper = 0;
        for (int set = 0; set < 64; set++) {
            x.hear(set);
            upper += x.passes(1, 2, 0, n, 1) == -9 ? 1 : 0;
        }
        int lower = 64;
        for (int divisor = 64; divisor > 1; divisor--) {
            if (upper % divisor == 0 && lower % divisor == 0) {
                upper /= divisor;
                lower /= divisor;
            }
        }
        due.is(text + " " + row + " odds, upper", x.odds(1, 2, 0, n, 0), upper);
        due.is(text + " " + row + " odds, lower", x.odds(1, 2, 0, n, 1), lower);
    }

    private static void least(String text) {
        HeronFord x = Due.told(text);
        Naive naive = new Naive(text);
        for (int ways = 1; ways < 16; ways++) {
            List<Integer> best = naive.least(ways);
            for (int k = -1; k <= naive.fish.length; k++) {
                int want = k + 1 < best.size() ? best.get(k + 1) : -9;
                due.is(text + " least(" + ways + ", " + k + ")", x.least(ways, k), want);
            }
        }
    }
}
