import java.util.ArrayList;
import java.util.List;

/** Runs of calls with any numbers, the same each time: none throws, and those that are refused change nothing. */
public final class RefusalTest {
    private static final Due due = new Due();
    /** So many that, with what state() asks, an object stays under 512 calls. */
    private static final int CALLS = 115;
    private static final int[] ODD = {-1, 61, 100, Integer.MAX_VALUE, Integer.MIN_VALUE, 1 << 30, -20, 64};
    private static final long LOST = Long.MIN_VALUE;
    private static long seed = 4711;

    public static void main(String[] args) {
        for (int run = 0; run < 5000; run++) {
            run(run);
        }
        due.end();
    }

    private static int upTo(int bound) {
        seed = seed * 6364136223846793005L + 1442695040888963407L;
        return (int) ((seed >>> 33) % bound);
    }

    private static int any(int bound) {
        return upTo(12) == 0 ? ODD[upTo(ODD.length)] : upTo(bound);
    }

    private static void run(int run) {
        HeronFord x = new HeronFord();
        List<int[]> taken = new ArrayList<>();
        for (int k = 0; k < CALLS; k++) {
            int[] call = k % 60 == 5 ? new int[] {100} : call();
            try {
                long answer = answer(x, call);
                if (!isRefused(answer)) {
                    taken.add(call);
                }
                if (namesFaults(call[0]) && answer != LOST) {
                    due.is("run " + run + ": fault() of call " + call[0], x.fault(), answer <= -11 && answer >= -14 ? -10 - answer : 0);
                }
            } catch (RuntimeException e) {
                due.is("run " + run + ": call " + call[0] + " threw " + e, 1, 0);
            }
        }
        HeronFord y = new HeronFord();
        for (int[] call : taken) {
            answer(y, call);
        }
        due.is("run " + run + ": state of both", state(x).equals(state(y)) ? 1 : 0, 1);
    }

    private static boolean isRefused(long answer) {
        return answer == LOST || answer <= -1 && answer >= -4 || answer <= -11 && answer >= -14 || answer <= -100 && answer >= -132;
    }

    private static boolean namesFaults(int call) {
        return call < 11 || call >= 17 && call < 22;
    }

    private static int[] call() {
        int[] call = new int[7];
        call[0] = upTo(27);
        int[] bounds = {5, 5, 4, 3, 9, 4};
        for (int k = 0; k < bounds.length; k++) {
            call[k + 1] = any(bounds[k]);
        }
        return call;
    }

    /** a: a fish, b: another, s: a sheet, l: a lane, i, n: cells or pairs. */
    private static long answer(HeronFord x, int[] call) {
        if (call[0] == 100) {
            Due.fill(x, 0, 0, Due.codes("h2;f3902;e5901;p7510;f2161;e4204"));
            x.ford(0, 0, 0, 32);
            Due.fill(x, 1, 2, 0, 0, 3, 1, 1, 3);
            Due.fill(x, 2, 1, 1, 1, 2, 2, 4, 3);
            return 1;
        }
        int a = call[1], b = call[2], s = call[3], l = call[4], i = call[5], n = call[6];
        switch (call[0]) {
            case 0: return x.ford(s, l, i, n);
            case 1: return x.passes(s, l, i, n, b);
            case 2: return x.owes(a, b, s, l, i, n);
            case 3: return x.toll(a, s, l, i, n);
            case 4: return x.payments(s, l, i, n);
            case 5: return x.wants(a, s, l, i, n);
            case 6: return x.had(a, s, l, i, n);
            case 7: return x.dears(s, l, i, n);
            case 8: return x.kinds(a, s, l, i, n);
            case 9: return x.odds(s, l, i, n, b);
            case 10: return x.as(a, b);
            case 11: return x.ofFish(a, b);
            case 12: return x.dear(a);
            case 13: return x.scales(a, i);
            case 14: return x.hear(i);
            case 15: return x.least(i, b - 1);
            case 16: return x.lose(s);
            case 17: return x.sheet(s, l, 3 * i);
            case 18: return x.put(s, i, n);
            case 19: return x.cell(s, i, l);
            case 20: return x.copy(s, i, b, n, l);
            case 21: return x.copy(s, i, s, n, b);
            case 22: return x.reading(a, i);
            case 23: return x.back(a);
            case 24: return x.tell(a);
            case 25: return x.let(a);
            default: return x.many(a) + x.trace() * 0;
        }
    }

    private static String state(HeronFord x) {
        StringBuilder state = new StringBuilder();
        for (int what = 0; what < 4; what++) {
            state.append(x.many(what)).append(' ');
        }
        for (int f = 0; f < 5; f++) {
            for (int what = 0; what < 5; what++) {
                state.append(x.ofFish(f, what)).append(' ');
            }
        }
        for (int k = 0; k < 4; k++) {
            for (int lane = 0; lane < 3; lane++) {
                x.cell(k, -1, lane);
                boolean isItsLane = x.fault() == 3;
                state.append(x.fault()).append(' ');
                for (int i = 0; i < 25 && isItsLane; i++) {
                    state.append(x.cell(k, i, lane)).append(' ');
                }
            }
        }
        return state.append(x.trace()).toString();
    }
}
