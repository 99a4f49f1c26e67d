import java.util.ArrayList;
import java.util.List;

/** The ford once more, written without regard to speed: what CrossTest holds the class against. */
final class Naive {
    final String kinds;
    final int[][] fish;
    int dear;
    int known;

    int[] scales;
    int[][] owed;
    int harmed;
    boolean[] above;
    int got;
    int heard;

    Naive(String text) {
        String[] parts = text.split(";");
        dear = parts[0].charAt(1) - '0';
        fish = new int[parts.length - 1][];
        StringBuilder letters = new StringBuilder();
        for (int f = 0; f < fish.length; f++) {
            letters.append(parts[f + 1].charAt(0));
            fish[f] = parts[f + 1].substring(1).chars().map(c -> c - '0').toArray();
        }
        kinds = letters.toString();
    }

    /** Walks a row of codes (10 times fish, and how); the first wrong, or -9. */
    int walk(List<Integer> row) {
        scales = new int[fish.length];
        owed = new int[fish.length][fish.length];
        above = new boolean[fish.length];
        harmed = 0;
        got = 0;
        heard = known;
        for (int f = 0; f < fish.length; f++) {
            scales[f] = fish[f][1];
        }
        for (int k = 0; k < row.size(); k++) {
            if (!pass(row.get(k) / 10, row.get(k) % 10)) {
                return k;
            }
        }
        return -9;
    }

    int toll(int f) {
        int size = fish[f][0];
        int share = kinds.charAt(f) == 'f' ? size : kinds.charAt(f) == 'e' ? size - 1 : (size - 1) / 2;
        int toll = above[f] ? share : share + dear;
        return (harmed & 1 << f) != 0 ? 2 * toll : toll;
    }

    private boolean pass(int f, int how) {
        int song = fish[f][2];
        int secret = fish[f][3];
        if (how == 0) {
            return give(f, f, toll(f));
        }
        if (how == 1) {
            if (song == 6 || (heard & 1 << song) != 0) {
                return false;
            }
            heard |= 1 << song;
        } else if (how == 2) {
            if (secret == f || secret >= fish.length || (harmed & 1 << secret) != 0) {
                return false;
            }
            harmed |= 1 << secret;
        } else {
            for (int eel = 0; eel < fish.length; eel++) {
                if (eel != f && kinds.charAt(eel) != 'f' && give(f, eel, toll(f))) {
                    return true;
                }
            }
            return false;
        }
        above[f] = !above[f];
        return true;
    }

    private boolean give(int f, int payer, int much) {
        if (scales[payer] < much) {
            return false;
        }
        scales[payer] -= much;
        got += much;
        if (payer != f) {
            owed[f][payer] += much;
        }
        above[f] = !above[f];
        return true;
    }

    /** The least by ways: its scales and then its row; empty, if it can't be. All rows are tried. */
    List<Integer> least(int ways) {
        List<Integer> best = new ArrayList<>();
        tryAll(ways, new ArrayList<>(), best);
        return best;
    }

    private void tryAll(int ways, List<Integer> row, List<Integer> best) {
        if (walk(row) != -9) {
            return;
        }
        if (row.size() == fish.length) {
            if (best.isEmpty() || got < best.get(0)) {
                best.clear();
                best.add(got);
                best.addAll(row);
            }
            return;
        }
        for (int code = 0; code < 10 * fish.length; code++) {
            int f = code / 10;
            if (code % 10 < 4 && (ways & 1 << code % 10) != 0 && row.stream().noneMatch(c -> c / 10 == f)) {
                row.add(code);
                tryAll(ways, row, best);
                row.remove(row.size() - 1);
            }
        }
    }

    /** The fewest payments behind the latest walk: each who has to give pays one who has to get, or the other way. */
    int payments() {
        int[] net = new int[fish.length];
        for (int f = 0; f < net.length; f++) {
            for (int other = 0; other < net.length; other++) {
                net[f] += owed[f][other] - owed[other][f];
            }
        }
        return settle(net, 0);
    }

    private static int settle(int[] net, int f) {
        if (f == net.length) {
            return 0;
        }
        if (net[f] == 0) {
            return settle(net, f + 1);
        }
        int best = 99;
        for (int other = f + 1; other < net.length; other++) {
            if (net[other] != 0 && net[f] > 0 != net[other] > 0) {
                net[other] += net[f];
                best = Math.min(best, 1 + settle(net, f + 1));
                net[other] -= net[f];
            }
        }
        return best;
    }
}
