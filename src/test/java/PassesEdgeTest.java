/** The boundary cases of promises 7 to 9: passes, owes, toll. */
public final class PassesEdgeTest {
    private static final int UNKNOWN = Edges.UNKNOWN, OUTSIDE = Edges.OUTSIDE, STATE = Edges.STATE, NONE = Edges.NONE;
    private static final int NULL = Edges.NULL, CAST = Edges.CAST, INDEX = Edges.INDEX;
    private static final int MOST = Edges.MOST, LEAST = Edges.LEAST;
    private static final String FIVE = Edges.FIVE;

    private static final Edges edges = new Edges(7, 9);

    public static void main(String[] args) {
        atFirst();
        byScales();
        bySong();
        bySecret();
        onCredit();
        tolls();
        firstWrong();
        what();
        howManyPairs();
        refusals();
        faults();
        pairByPair();
        owes();
        toll();
        edges.end();
    }

    private static void atFirst() {
        edges.of(7, "no PASSES", unused -> {
            HeronFord x = Due.told(FIVE);
            x.hear(40);
            int[] answers = {0, NONE, 40, 0, 0};
            for (int what = 0; what < 5; what++) {
                edges.is("what " + what, Due.passes(x, what), answers[what]);
            }
            int[] scales = {9, 9, 5, 1, 2};
            for (int f = 0; f < 5; f++) {
                edges.is("scales of " + f, Due.passes(x, 10 + f), scales[f]);
            }
        });
        edges.of(7, "all FISH are below at first, nobody is HARMED, nobody OWES, at each call", unused -> {
            HeronFord x = Due.told(FIVE);
            int n = Due.row(x, 0, 2, 3, 3);
            for (int again = 0; again < 2; again++) {
                edges.is("above", x.passes(1, 2, 0, n, 4), 9);
                edges.is("HARMED", x.passes(1, 2, 0, n, 3), 4);
                edges.is("got", x.passes(1, 2, 0, n, 0), 4);
                edges.is("scales of 1", x.passes(1, 2, 0, n, 11), 5);
                edges.is("owes", x.owes(3, 1, 1, 2, 0, n), 4);
            }
            edges.is("above, behind none", x.passes(1, 2, 0, 0, 4), 0);
            edges.is("HARMED, behind none", x.passes(1, 2, 0, 0, 3), 0);
            edges.is("owes, behind none", x.owes(3, 1, 1, 2, 0, 0), 0);
        });
        edges.of(7, "the heron KNOWS those SONGS that it KNOWS ahead", unused -> {
            HeronFord x = Due.told(FIVE);
            x.hear(1);
            edges.is("one that it KNOWS", Due.passes(x, 1, 0, 1), 0);
            edges.is("one that it does not", Due.passes(x, 2, 2, 1), 3);
        });
    }

    private static void byScales() {
        edges.of(7, "how 0: it has as many as its TOLL is, or more", x -> {
            Due.tell(x, "h2;f3065");
            int[] left = {-100, -100, -100, -100, -100, 0, 1};
            for (int scales = 0; scales < 7; scales++) {
                x.scales(0, scales);
                edges.is("left of " + scales, Due.passes(x, 10, 0, 0), left[scales]);
            }
            x.scales(0, 99);
            edges.is("left of 99", Due.passes(x, 10, 0, 0), 94);
        });
        edges.of(7, "how 0: a TOLL of 0", x -> {
            Due.tell(x, "h0;e1065");
            edges.is("got", Due.passes(x, 0, 0, 0), 0);
            edges.is("above", Due.passes(x, 4, 0, 0), 1);
            edges.is("left", Due.passes(x, 10, 0, 0), 0);
        });
        edges.of(7, "how 0: it gives to the heron, nobody OWES", x -> {
            Due.tell(x, FIVE);
            edges.is("got", Due.passes(x, 0, 0, 0, 1, 0), 11);
            edges.is("owes(0, 1)", x.owes(0, 1, 1, 2, 0, 2), 0);
            edges.is("owes(0, 0)", x.owes(0, 0, 1, 2, 0, 2), 0);
        });
        edges.of(7, "to the other side: down again", x -> {
            Due.tell(x, "h2;f1965");
            edges.is("above, up", Due.passes(x, 4, 0, 0), 1);
            edges.is("above, up and down", Due.passes(x, 4, 0, 0, 0, 0), 0);
            edges.is("above, up, down and up", Due.passes(x, 4, 0, 0, 0, 0, 0, 0), 1);
            edges.is("got", Due.passes(x, 0, 0, 0, 0, 0, 0, 0), 7);
        });
    }

    private static void bySong() {
        edges.of(7, "how 1: SONGS 0 and 5 are, 6 is none", x -> {
            Due.tell(x, "h0;f1005;f1055;f1065");
            edges.is("SONG 0", Due.passes(x, 2, 0, 1), 1);
            edges.is("SONG 5", Due.passes(x, 2, 1, 1), 32);
            edges.is("no SONG", Due.passes(x, 1, 2, 1), 0);
            edges.is("no SONG behind others", Due.passes(x, 1, 0, 1, 1, 1, 2, 1), 2);
        });
        edges.of(7, "how 1: which the heron does not KNOW yet", x -> {
            Due.tell(x, "h0;f1005;f1005;f1015");
            edges.is("again, of itself", Due.passes(x, 1, 0, 1, 0, 1), 1);
            edges.is("again, of another", Due.passes(x, 1, 0, 1, 1, 1), 1);
            edges.is("another one", Due.passes(x, 2, 0, 1, 2, 1), 3);
            x.hear(63);
            edges.is("all are known", Due.passes(x, 1, 2, 1), 0);
            x.hear(61);
            edges.is("but one", Due.passes(x, 2, 2, 1), 63);
        });
        edges.of(7, "how 1: no SCALES are given, from above too", x -> {
            Due.tell(x, "h9;f9905;f9965");
            edges.is("got", Due.passes(x, 0, 0, 1), 0);
            edges.is("left", Due.passes(x, 10, 0, 1), 9);
            x.scales(0, 18);
            edges.is("down by a song", Due.passes(x, 4, 0, 0, 0, 1), 0);
        });
    }

    private static void bySecret() {
        edges.of(7, "how 2: of another FISH: not its own", x -> {
            Due.tell(x, "h0;f1000;f1001;f1000");
            edges.is("its own", Due.passes(x, 1, 0, 2), 0);
            edges.is("its own", Due.passes(x, 1, 1, 2), 0);
            edges.is("of another", Due.passes(x, 3, 2, 2), 1);
        });
        edges.of(7, "how 2: of a FISH that there is", x -> {
            Due.tell(x, "h0;f1001;f1002;f1003;f1004");
            edges.is("of the last", Due.passes(x, 3, 2, 2), 8);
            edges.is("of one behind the last", Due.passes(x, 1, 3, 2), 0);
            Due.tell(x, "h0;f1004;f1000;f1000;f1000;f1005");
            edges.is("of the last of five", Due.passes(x, 3, 0, 2), 16);
            edges.is("5: of none", Due.passes(x, 1, 4, 2), 0);
        });
        edges.of(7, "how 2: which is not HARMED yet", x -> {
            Due.tell(x, "h0;f1001;f1000;f1001");
            edges.is("again", Due.passes(x, 1, 0, 2, 0, 2), 1);
            edges.is("by another", Due.passes(x, 1, 0, 2, 2, 2), 1);
            edges.is("one another", Due.passes(x, 3, 0, 2, 1, 2), 3);
        });
        edges.of(7, "how 2: no SCALES are given, the one that tells is not HARMED", x -> {
            Due.tell(x, "h9;f9901;f9960");
            edges.is("got", Due.passes(x, 0, 0, 2), 0);
            edges.is("left", Due.passes(x, 10, 0, 2), 9);
            edges.is("HARMED", Due.passes(x, 3, 0, 2), 2);
        });
    }

    private static void onCredit() {
        edges.of(7, "how 3: a FISH does not lend, an EEL does, a PIKE, too", x -> {
            for (int kind = 0; kind < 3; kind++) {
                Due.tell(x, "h0;f1065;" + "fep".charAt(kind) + "9965");
                edges.is("first wrong, kind " + kind, Due.passes(x, 1, 0, 3), kind == 0 ? 0 : NONE);
            }
        });
        edges.of(7, "how 3: not itself", x -> {
            Due.tell(x, "h0;e1965");
            edges.is("alone", Due.passes(x, 1, 0, 3), 0);
            Due.tell(x, "h0;e1965;p1965");
            edges.is("owes the other", Due.passes(x, 1, 0, 3, 1, 3), NONE);
            edges.is("left of it", Due.passes(x, 10, 0, 3), 9);
        });
        edges.of(7, "how 3: has as many SCALES as the TOLL is, or more", x -> {
            Due.tell(x, "h0;f4065;e9065");
            for (int scales = 0; scales < 6; scales++) {
                x.scales(1, scales);
                edges.is("left of " + scales, Due.passes(x, 11, 0, 3), scales < 4 ? -100 : scales - 4);
            }
        });
        edges.of(7, "how 3: the first EEL by numbers, not the one that has most", x -> {
            Due.tell(x, "h0;f4965;e9365;p9465;e9965");
            edges.is("of the first that has as many", Due.passes(x, 12, 0, 3), 0);
            edges.is("of the first that has as many", Due.passes(x, 13, 0, 3), 9);
            edges.is("of the next, behind that", Due.passes(x, 13, 0, 3, 0, 3), 5);
            edges.is("of none, behind that", Due.passes(x, 1, 0, 3, 0, 3, 0, 3, 0, 3), 3);
        });
        edges.of(7, "how 3: its own SCALES do not matter", x -> {
            Due.tell(x, "h0;f4965;e9965");
            edges.is("left of it", Due.passes(x, 10, 0, 3), 9);
            edges.is("left of the EEL", Due.passes(x, 11, 0, 3), 5);
            edges.is("got", Due.passes(x, 0, 0, 3), 4);
            edges.is("above", Due.passes(x, 4, 0, 3), 1);
        });
        edges.of(7, "how 3: a TOLL of 0 is of another EEL, too", x -> {
            Due.tell(x, "h0;e1065;f1965");
            edges.is("no other", Due.passes(x, 1, 0, 3), 0);
            Due.tell(x, "h0;e1065;e1065");
            edges.is("another that has none", Due.passes(x, 1, 0, 3), NONE);
            edges.is("owes", x.owes(0, 1, 1, 2, 0, 1), 0);
        });
        edges.of(7, "how 3: the TOLL is that of the one that passes", x -> {
            Due.tell(x, "h3;f2065;e9965");
            edges.is("up", Due.passes(x, 0, 0, 3), 5);
            edges.is("up and down", Due.passes(x, 0, 0, 3, 0, 3), 7);
            Due.tell(x, "h3;f2065;e9965;f1960");
            x.scales(1, 20);
            edges.is("up, HARMED", Due.passes(x, 0, 2, 2, 0, 3), 10);
        });
    }

    private static void tolls() {
        edges.of(7, "SCALES that the heron got: twenty PASSES by the most", x -> {
            Due.tell(x, "h9;f9065;f9960");
            x.scales(0, 99);
            // from below 36, from above 18, as it is HARMED
            edges.is("got", Due.passes(x, 0, 1, 2, 0, 0, 0, 0), 54);
            edges.is("left", Due.passes(x, 10, 1, 2, 0, 0, 0, 0), 45);
            edges.is("first wrong", Due.passes(x, 1, 1, 2, 0, 0, 0, 0, 0, 0, 0, 0), 4);
        });
    }

    private static int[] times(int n, int f, int how) {
        int[] pairs = new int[2 * n];
        for (int k = 0; k < n; k++) {
            pairs[2 * k] = f;
            pairs[2 * k + 1] = how;
        }
        return pairs;
    }

    private static void firstWrong() {
        edges.of(7, "FIRST WRONG: numbered from 0 on, 0 .. 19", x -> {
            Due.tell(x, "h0;e1065;f1065");
            Due.row(x, new int[40]);
            for (int wrong = 0; wrong < 20; wrong++) {
                x.put(1, 2 * wrong + 1, 1);
                edges.is("first wrong", x.passes(1, 2, 0, 20, 1), wrong);
                edges.is("-100 less it", x.passes(1, 2, 0, 20, 0), -100 - wrong);
                edges.is("those ahead of it", x.passes(1, 2, 0, wrong, 1), NONE);
                x.put(1, 2 * wrong + 1, 0);
            }
        });
        edges.of(7, "FIRST WRONG: of several the first", x -> {
            Due.tell(x, "h0;e1065;f1065");
            edges.is("0 of all", Due.passes(x, 1, times(20, 1, 0)), 0);
            edges.is("1 and 2", Due.passes(x, 1, 0, 0, 0, 1, 0, 2), 1);
        });
        edges.of(7, "FIRST WRONG is no FAULT", x -> {
            Due.tell(x, "h0;e1065;f1065");
            x.put(0, 99, 0);
            edges.is("fault()", x.fault(), 3);
            Due.row(x, 1, 0);
            x.put(0, 99, 0);
            edges.is("first wrong", x.passes(1, 2, 0, 1, 0), -100);
            edges.is("fault()", x.fault(), 0);
        });
        edges.of(7, "of those with a FIRST WRONG: -100 less that, but what 1; of a FISH that there is not, too", x -> {
            Due.tell(x, "h0;e1065;f1065");
            Due.row(x, 0, 0, 1, 0);
            for (int what : new int[] {0, 2, 3, 4, 10, 11, 12, 13, 14}) {
                edges.is("what " + what, x.passes(1, 2, 0, 2, what), -101);
            }
            edges.is("what 1", x.passes(1, 2, 0, 2, 1), 1);
        });
        edges.of(7, "PASSES with a FIRST WRONG leave nothing behind", x -> {
            Due.tell(x, FIVE);
            edges.is("first wrong", Due.passes(x, 1, 0, 0, 0, 2, 2, 1, 3, 1), 3);
            edges.is("behind none, scales", x.passes(1, 2, 0, 0, 10), 9);
            edges.is("behind none, songs", x.passes(1, 2, 0, 0, 2), 0);
            edges.is("behind none, got", x.passes(1, 2, 0, 0, 0), 0);
        });
    }

    private static void what() {
        edges.of(7, "OUTSIDE: what (0 .. 4, 10 .. 14)", unused -> {
            HeronFord x = Due.told(FIVE);
            int[] answers = {5, NONE, 0, 0, 1};
            for (int what = 0; what < 5; what++) {
                edges.is("what " + what, Due.passes(x, what, 0, 0), answers[what]);
            }
            int[] scales = {4, 9, 5, 1, 2};
            for (int f = 0; f < 5; f++) {
                edges.is("what " + (10 + f), Due.passes(x, 10 + f, 0, 0), scales[f]);
            }
            for (int what : new int[] {-1, 5, 6, 7, 8, 9, 15, 16, -10, MOST, LEAST}) {
                edges.is("what " + what, Due.passes(x, what, 0, 0), OUTSIDE);
            }
        });
        edges.of(7, "10 and f; NONE: there is no such FISH", x -> {
            for (int count = 1; count <= 5; count++) {
                Due.tell(x, "h0;f1765;f1765;f1765;f1765;f1765".substring(0, 2 + 6 * count));
                for (int f = 0; f < 5; f++) {
                    edges.is("scales of " + f + " of " + count, Due.passes(x, 10 + f), f < count ? 7 : NONE);
                }
            }
        });
        edges.of(7, "sets: bit k for number k, of all five", x -> {
            Due.tell(x, "h0;f1001;f1012;f1023;f1034;f1040");
            int[] pairs = {0, 1, 1, 1, 2, 1, 3, 1, 4, 1};
            edges.is("above", Due.passes(x, 4, pairs), 31);
            edges.is("SONGS", Due.passes(x, 2, pairs), 31);
            edges.is("HARMED", Due.passes(x, 3, 0, 2, 1, 2, 2, 2, 3, 2, 4, 2), 31);
            edges.is("above, the last", Due.passes(x, 4, 4, 1), 16);
            edges.is("HARMED, the first", Due.passes(x, 3, 4, 2), 1);
        });
    }

    private static void howManyPairs() {
        edges.of(7, "OUTSIDE: n (0 .. 20)", x -> {
            Due.tell(x, "h0;e1065");
            x.sheet(1, 2, 60);
            edges.is("n 0", x.passes(1, 2, 0, 0, 4), 0);
            edges.is("n 1", x.passes(1, 2, 0, 1, 4), 1);
            edges.is("n 19", x.passes(1, 2, 0, 19, 4), 1);
            edges.is("n 20", x.passes(1, 2, 0, 20, 4), 0);
            for (int n : new int[] {-1, 21, 30, 1 << 30, MOST, LEAST}) {
                edges.is("n " + n, x.passes(1, 2, 0, n, 4), OUTSIDE);
                edges.is("fault()", x.fault(), 0);
            }
        });
        edges.of(7, "n pairs, that are cells of a SHEET from i on (2 n)", x -> {
            Due.tell(x, "h0;e1065");
            x.sheet(1, 2, 60);
            edges.is("the last twenty", x.passes(1, 2, 20, 20, 4), 0);
            edges.is("one cell too few", x.passes(1, 2, 21, 20, 4), INDEX);
            edges.is("the last one", x.passes(1, 2, 58, 1, 4), 1);
            edges.is("half of one", x.passes(1, 2, 59, 1, 4), INDEX);
            edges.is("none behind the last", x.passes(1, 2, 60, 0, 4), 0);
            edges.is("none behind that", x.passes(1, 2, 61, 0, 4), INDEX);
            edges.is("none ahead", x.passes(1, 2, -1, 0, 4), INDEX);
        });
        edges.of(7, "one behind another: FISH, how", x -> {
            Due.tell(x, "h0;f1001;f1965");
            Due.fill(x, 1, 0, 9, 0, 1, 0, 2, 9, 9);
            edges.is("SONGS from 1 on", x.passes(1, 0, 1, 2, 2), 1);
            edges.is("HARMED from 1 on", x.passes(1, 0, 1, 2, 3), 2);
            edges.is("from 0 on", x.passes(1, 0, 0, 2, 3), UNKNOWN);
            edges.is("from 2 on", x.passes(1, 0, 2, 1, 4), 2);
        });
    }

    private static void refusals() {
        edges.of(7, "UNKNOWN: SHEET (0 .. 3)", x -> {
            for (int k : new int[] {-1, 4, MOST, LEAST}) {
                edges.is("sheet " + k, x.passes(k, 0, 0, 0, 0), UNKNOWN);
            }
            Due.tell(x, FIVE);
            for (int k = 0; k < 4; k++) {
                Due.fill(x, k, 2, 0, 0);
                edges.is("sheet " + k, x.passes(k, 2, 0, 1, 0), 5);
            }
        });
        edges.of(7, "OUTSIDE: lane (0 .. 2)", x -> {
            Due.tell(x, FIVE);
            for (int lane = 0; lane < 3; lane++) {
                Due.fill(x, 1, lane, 0, 0);
                edges.is("lane " + lane, x.passes(1, lane, 0, 1, 0), 5);
            }
            for (int lane : new int[] {-1, 3, MOST, LEAST}) {
                edges.is("lane " + lane, x.passes(1, lane, 0, 1, 0), OUTSIDE);
            }
        });
        edges.of(7, "UNKNOWN ahead of OUTSIDE", x -> {
            edges.is("lane", x.passes(4, 3, 0, 0, 0), UNKNOWN);
            edges.is("n", x.passes(4, 0, 0, 21, 0), UNKNOWN);
            edges.is("what", x.passes(-1, 0, 0, 0, 5), UNKNOWN);
        });
        edges.of(7, "OUTSIDE ahead of NULL, CAST, INDEX", x -> {
            for (int again = 0; again < 2; again++) {
                edges.is("lane", x.passes(0, 3, -1, 0, 0), OUTSIDE);
                edges.is("n", x.passes(0, 0, -1, -1, 0), OUTSIDE);
                edges.is("what", x.passes(0, 0, -1, 0, 5), OUTSIDE);
                x.sheet(0, 1, 0);
            }
        });
        edges.of(7, "FAULTS ahead of STATE", x -> {
            edges.is("NULL", x.passes(0, 0, 0, 0, 0), NULL);
            x.sheet(0, 1, 2);
            edges.is("CAST", x.passes(0, 0, 0, 0, 0), CAST);
            edges.is("INDEX", x.passes(0, 1, 0, 2, 0), INDEX);
            edges.is("none", x.passes(0, 1, 0, 1, 0), STATE);
        });
        edges.of(7, "STATE: there is no FORD, ahead of pairs", x -> {
            Due.fill(x, 0, 1, 9, 9);
            edges.is("a pair", x.passes(0, 1, 0, 1, 0), STATE);
            edges.is("fault()", x.fault(), 0);
            edges.is("no pair", x.passes(0, 1, 0, 0, 1), STATE);
        });
    }

    private static void faults() {
        edges.of(7, "NULL, nothing is no CAST", x -> {
            for (int lane = 0; lane < 3; lane++) {
                edges.is("lane " + lane, x.passes(2, lane, -1, 20, 0), NULL);
                edges.is("fault()", x.fault(), 1);
            }
        });
        edges.of(7, "CAST ahead of INDEX", x -> {
            Due.tell(x, FIVE);
            for (int own = 0; own < 3; own++) {
                x.sheet(1, own, 2);
                for (int lane = 0; lane < 3; lane++) {
                    edges.is("from -1 on", x.passes(1, lane, -1, 1, 0), lane == own ? INDEX : CAST);
                    edges.is("fault()", x.fault(), lane == own ? 3 : 2);
                }
            }
        });
        edges.of(7, "INDEX", x -> {
            Due.tell(x, FIVE);
            x.sheet(1, 2, 4);
            int[][] beyond = {{-1, 1}, {1, 2}, {0, 3}, {3, 1}, {4, 1}, {5, 0}, {MOST, 0}, {MOST, 1}, {MOST, 20}, {MOST - 39, 20},
                {LEAST, 0}, {LEAST, 20}};
            for (int[] b : beyond) {
                edges.is("from " + b[0] + " on, " + b[1], x.passes(1, 2, b[0], b[1], 0), INDEX);
                edges.is("fault()", x.fault(), 3);
            }
            edges.is("all", x.passes(1, 2, 0, 2, 1), NONE);
            edges.is("fault()", x.fault(), 0);
            edges.is("from 4 on, 0", x.passes(1, 2, 4, 0, 1), NONE);
        });
        edges.of(7, "INDEX ahead of pairs", x -> {
            Due.tell(x, FIVE);
            Due.fill(x, 1, 2, 9, 9);
            edges.is("two of them", x.passes(1, 2, 0, 2, 0), INDEX);
            edges.is("one of them", x.passes(1, 2, 0, 1, 0), UNKNOWN);
        });
    }

    private static void pairByPair() {
        edges.of(7, "UNKNOWN: FISH of a pair", unused -> {
            HeronFord x = Due.told(FIVE);
            edges.is("FISH 4", Due.passes(x, 4, 4, 1), 16);
            for (int f : new int[] {-1, 5, MOST, LEAST}) {
                edges.is("FISH " + f, Due.passes(x, 4, f, 1), UNKNOWN);
            }
            Due.tell(x, "h0;f1065");
            edges.is("FISH 1 of one", Due.passes(x, 4, 1, 0), UNKNOWN);
        });
        edges.of(7, "OUTSIDE: how of a pair", unused -> {
            HeronFord x = Due.told(FIVE);
            for (int how = 0; how < 4; how++) {
                edges.is("how " + how, Due.passes(x, 1, 0, how), NONE);
            }
            for (int how : new int[] {-1, 4, MOST, LEAST}) {
                edges.is("how " + how, Due.passes(x, 1, 0, how), OUTSIDE);
                edges.is("fault()", x.fault(), 0);
            }
        });
        edges.of(7, "of a pair UNKNOWN ahead of OUTSIDE", x -> {
            Due.tell(x, FIVE);
            edges.is("both", Due.passes(x, 1, 5, 4), UNKNOWN);
        });
        edges.of(7, "pair by pair: the first one that is refused", unused -> {
            HeronFord x = Due.told(FIVE);
            edges.is("how, then FISH", Due.passes(x, 1, 0, 4, 5, 0), OUTSIDE);
            edges.is("FISH, then how", Due.passes(x, 1, 5, 0, 0, 4), UNKNOWN);
        });
        edges.of(7, "all of them, ahead of any act", unused -> {
            HeronFord x = Due.told(FIVE);
            edges.is("behind a FIRST WRONG, FISH", Due.passes(x, 1, 3, 1, 5, 0), UNKNOWN);
            edges.is("behind a FIRST WRONG, how", Due.passes(x, 1, 3, 1, 0, 4), OUTSIDE);
            int[] pairs = times(20, 0, 1);
            pairs[39] = 4;
            edges.is("the last of twenty", Due.passes(x, 1, pairs), OUTSIDE);
            pairs[38] = -1;
            edges.is("the last of twenty", Due.passes(x, 1, pairs), UNKNOWN);
        });
        edges.of(7, "pairs behind the n-th do not matter", unused -> {
            HeronFord x = Due.told(FIVE);
            Due.row(x, 0, 0, 9, 9);
            edges.is("one of two", x.passes(1, 2, 0, 1, 0), 5);
            edges.is("two of two", x.passes(1, 2, 0, 2, 0), UNKNOWN);
        });
    }

    private static void owes() {
        edges.of(8, "UNKNOWN: FISH, each of both", unused -> {
            HeronFord x = Due.told(FIVE);
            int n = Due.row(x, 3, 3);
            for (int f : new int[] {-1, 5, MOST, LEAST}) {
                edges.is("owes(" + f + ", 0)", x.owes(f, 0, 1, 2, 0, n), UNKNOWN);
                edges.is("owes(0, " + f + ")", x.owes(0, f, 1, 2, 0, n), UNKNOWN);
            }
            edges.is("owes(0, 4)", x.owes(0, 4, 1, 2, 0, n), 0);
            edges.is("owes(4, 0)", x.owes(4, 0, 1, 2, 0, n), 0);
        });
        edges.of(8, "UNKNOWN: FISH, ahead of OUTSIDE and of FAULTS", x -> {
            edges.is("no FORD, nothing", x.owes(0, 1, 0, 3, 0, 0), UNKNOWN);
            Due.tell(x, FIVE);
            edges.is("one, lane", x.owes(5, 0, 1, 3, 0, 0), UNKNOWN);
            edges.is("other, n", x.owes(0, 5, 1, 2, 0, 21), UNKNOWN);
            edges.is("other, NULL", x.owes(0, 5, 1, 2, 0, 0), UNKNOWN);
            edges.is("fault()", x.fault(), 0);
        });
        edges.of(8, "nobody OWES behind none", unused -> {
            HeronFord x = Due.told(FIVE);
            for (int f = 0; f < 5; f++) {
                for (int other = 0; other < 5; other++) {
                    edges.is("owes(" + f + ", " + other + ")", x.owes(f, other, 0, 0, 0, 0), 0);
                }
            }
        });
        edges.of(8, "OWES it so many more", unused -> {
            HeronFord x = Due.told(FIVE);
            Due.row(x, 3, 3, 3, 3, 0, 1);
            edges.is("behind one", x.owes(3, 1, 1, 2, 0, 1), 4);
            edges.is("behind two", x.owes(3, 1, 1, 2, 0, 2), 6);
            edges.is("behind a song, too", x.owes(3, 1, 1, 2, 0, 3), 6);
            edges.is("the other way", x.owes(1, 3, 1, 2, 0, 3), 0);
            edges.is("to another EEL", x.owes(3, 2, 1, 2, 0, 3), 0);
        });
        edges.of(8, "each way by itself", x -> {
            Due.tell(x, "h0;e5965;e4965");
            Due.row(x, 0, 3, 1, 3);
            edges.is("owes(0, 1)", x.owes(0, 1, 1, 2, 0, 2), 4);
            edges.is("owes(1, 0)", x.owes(1, 0, 1, 2, 0, 2), 3);
            edges.is("owes(0, 0)", x.owes(0, 0, 1, 2, 0, 2), 0);
        });
        edges.of(8, "the most: 99 and more of twenty PASSES", x -> {
            Due.tell(x, "h9;f9065;e9065");
            x.scales(1, 99);
            edges.is("seven", Due.passes(x, 1, times(7, 0, 3)), NONE);
            edges.is("owes(0, 1)", x.owes(0, 1, 1, 2, 0, 7), 99);
            edges.is("eight", Due.passes(x, 1, times(8, 0, 3)), 7);
        });
        edges.of(8, "-100 less the FIRST WRONG", x -> {
            Due.tell(x, "h0;e1065;e1065;f1065");
            for (int wrong = 0; wrong < 20; wrong += 19) {
                int[] pairs = times(20, 0, 3);
                pairs[2 * wrong] = 2;
                pairs[2 * wrong + 1] = 0;
                Due.row(x, pairs);
                edges.is("owes(0, 1)", x.owes(0, 1, 1, 2, 0, 20), -100 - wrong);
                edges.is("owes(2, 2)", x.owes(2, 2, 1, 2, 0, 20), -100 - wrong);
            }
        });
    }

    private static void toll() {
        edges.of(9, "UNKNOWN: FISH", unused -> {
            HeronFord x = Due.told(FIVE);
            for (int f : new int[] {-1, 5, MOST, LEAST}) {
                edges.is("toll(" + f + ")", x.toll(f, 0, 0, 0, 0), UNKNOWN);
            }
            edges.is("toll(0)", x.toll(0, 0, 0, 0, 0), 5);
            edges.is("toll(4)", x.toll(4, 0, 0, 0, 0), 5);
        });
        edges.of(9, "UNKNOWN: FISH, ahead of OUTSIDE and of FAULTS", x -> {
            edges.is("no FORD, lane", x.toll(0, 0, 3, 0, 0), UNKNOWN);
            Due.tell(x, FIVE);
            edges.is("lane", x.toll(5, 1, 3, 0, 0), UNKNOWN);
            edges.is("NULL", x.toll(5, 1, 2, 0, 0), UNKNOWN);
            edges.is("fault()", x.fault(), 0);
        });
        edges.of(9, "upstream (from below) DEAR more, by where it is then", x -> {
            Due.tell(x, "h9;f9905");
            Due.row(x, 0, 1);
            edges.is("below", x.toll(0, 1, 2, 0, 0), 18);
            edges.is("above", x.toll(0, 1, 2, 0, 1), 9);
        });
        edges.of(9, "if it is HARMED, twice all that", x -> {
            Due.tell(x, "h9;f9905;f1960;f1901");
            Due.row(x, 1, 2, 0, 1);
            edges.is("below", x.toll(0, 1, 2, 0, 1), 36);
            edges.is("above", x.toll(0, 1, 2, 0, 2), 18);
            edges.is("of the one that told", x.toll(1, 1, 2, 0, 1), 1);
            edges.is("of another", x.toll(2, 1, 2, 0, 1), 10);
        });
        edges.of(9, "of 0, HARMED and above", x -> {
            Due.tell(x, "h0;p2065;f1960");
            Due.row(x, 1, 2, 0, 0);
            for (int n = 0; n < 3; n++) {
                edges.is("behind " + n, x.toll(0, 1, 2, 0, n), 0);
            }
        });
        edges.of(9, "-100 less the FIRST WRONG", x -> {
            Due.tell(x, "h0;e1065;f1065");
            Due.row(x, times(20, 0, 0));
            x.put(1, 39, 1);
            edges.is("of the last", x.toll(0, 1, 2, 0, 20), -119);
            x.put(1, 1, 3);
            edges.is("of the first", x.toll(1, 1, 2, 0, 20), -100);
        });
    }
}
