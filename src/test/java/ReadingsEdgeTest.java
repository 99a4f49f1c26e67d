/** The boundary cases of promises 13 to 18: reading, back, had, dears, kinds, odds. */
public final class ReadingsEdgeTest {
    private static final int UNKNOWN = Edges.UNKNOWN, OUTSIDE = Edges.OUTSIDE, STATE = Edges.STATE, FULL = Edges.FULL;
    private static final long LOST = Edges.LOST;
    private static final int MOST = Edges.MOST, LEAST = Edges.LEAST;
    private static final String FIVE = Edges.FIVE;
    /** One that gives 3 and DEAR as it goes up, and one that has 1 and stays. */
    private static final String TWO = "h2;f3902;f1105";

    private static final Edges edges = new Edges(13, 18);

    public static void main(String[] args) {
        reading();
        back();
        had();
        dears();
        kinds();
        odds();
        oddsLost();
        edges.end();
    }

    private static void reading() {
        edges.of(13, "UNKNOWN", x -> {
            edges.is("reading(0, 0) of no FORD", x.reading(0, 0), UNKNOWN);
            Due.tell(x, TWO);
            for (int f : new int[] {-1, 2, MOST, LEAST}) {
                edges.is("reading(" + f + ", 0)", x.reading(f, 0), UNKNOWN);
            }
            edges.is("many(3)", x.many(3), 0);
            edges.is("reading(1, 0)", x.reading(1, 0), 0);
        });
        edges.of(13, "OUTSIDE: v (0 .. 99)", x -> {
            Due.tell(x, TWO);
            for (int v : new int[] {-1, 100, MOST, LEAST}) {
                edges.is("reading(0, " + v + ")", x.reading(0, v), OUTSIDE);
            }
            edges.is("many(3)", x.many(3), 0);
            edges.is("reading(0, 0)", x.reading(0, 0), 0);
            edges.is("reading(0, 99)", x.reading(0, 99), 1);
        });
        edges.of(13, "FULL: 8 at most", x -> {
            Due.tell(x, TWO);
            for (int k = 0; k < 8; k++) {
                edges.is("READING " + k, x.reading(0, 9), k);
            }
            edges.is("a ninth", x.reading(0, 9), FULL);
            edges.is("many(3)", x.many(3), 8);
            edges.is("a ninth again", x.reading(1, 0), FULL);
        });
        edges.of(13, "UNKNOWN ahead of OUTSIDE ahead of FULL", x -> {
            edges.is("UNKNOWN, OUTSIDE", x.reading(0, 100), UNKNOWN);
            Due.tell(x, TWO);
            for (int k = 0; k < 8; k++) {
                x.reading(0, 9);
            }
            edges.is("all", x.reading(2, 100), UNKNOWN);
            edges.is("UNKNOWN, FULL", x.reading(-1, 0), UNKNOWN);
            edges.is("OUTSIDE, FULL", x.reading(0, 100), OUTSIDE);
        });
        edges.of(13, "numbered by how many there are ahead", x -> {
            Due.tell(x, TWO);
            edges.is("the first one", x.reading(1, 1), 0);
            edges.is("the next one", x.reading(1, 1), 1);
            x.back(1);
            edges.is("one behind back()", x.reading(0, 1), 1);
        });
        edges.of(13, "FULL adds none: the eighth counts", x -> {
            Due.tell(x, TWO);
            for (int k = 0; k < 8; k++) {
                x.reading(0, k == 7 ? 4 : 9);
            }
            edges.is("had, all", x.had(0, 0, 0, 0, 0), 0);
            x.reading(0, 4);
            edges.is("back(1)", x.back(1), 7);
            edges.is("had, but the eighth", x.had(0, 0, 0, 0, 0), 512);
        });
    }

    private static void back() {
        edges.of(14, "k (0 .. as many as there are), of none", x -> {
            edges.is("back(0) of no FORD", x.back(0), 0);
            edges.is("back(1) of no FORD", x.back(1), OUTSIDE);
            Due.tell(x, TWO);
            edges.is("back(0)", x.back(0), 0);
            for (int k : new int[] {1, -1, MOST, LEAST}) {
                edges.is("back(" + k + ")", x.back(k), OUTSIDE);
            }
        });
        edges.of(14, "k (0 .. as many as there are), of eight", x -> {
            Due.tell(x, TWO);
            for (int k = 0; k < 8; k++) {
                x.reading(0, 9);
            }
            for (int k : new int[] {9, -1, MOST, LEAST}) {
                edges.is("back(" + k + ")", x.back(k), OUTSIDE);
            }
            edges.is("back(0)", x.back(0), 8);
            edges.is("back(8)", x.back(8), 0);
            edges.is("back(1)", x.back(1), OUTSIDE);
        });
        edges.of(14, "the last are taken back, the first stay", x -> {
            Due.tell(x, TWO);
            x.reading(0, 3);
            x.reading(1, 1);
            x.reading(0, 9);
            edges.is("had, all", x.had(0, 0, 0, 0, 0), 0);
            edges.is("back(2)", x.back(2), 1);
            edges.is("had, but the last two", x.had(0, 0, 0, 0, 0), 8);
            edges.is("many(3)", x.many(3), 1);
        });
    }

    private static int had(HeronFord x, int f, int... pairs) {
        int n = Due.row(x, pairs);
        return x.had(f, 1, 2, 0, n);
    }

    private static void had() {
        edges.of(15, "numbers of SCALES (0 .. 9): all, and none", x -> {
            Due.tell(x, TWO);
            edges.is("all, behind none", had(x, 0), 1023);
            edges.is("none, by what can't be", had(x, 0, 1, 2), 0);
            x.reading(0, 10);
            edges.is("10 is none of them", had(x, 0), 0);
        });
        edges.of(15, "0 and 9 are among them", x -> {
            Due.tell(x, TWO);
            x.reading(0, 0);
            edges.is("0", had(x, 0), 1);
            x.back(1);
            x.reading(0, 9);
            edges.is("9", had(x, 0), 512);
        });
        edges.of(15, "more than 9, as it has, is not among them", x -> {
            Due.tell(x, TWO);
            x.scales(0, 99);
            edges.is("no READINGS", had(x, 0, 0, 0), 992);
            x.reading(0, 94);
            edges.is("as it is", had(x, 0, 0, 0), 0);
        });
        edges.of(15, "that they can't be as it is now does not matter", x -> {
            Due.tell(x, TWO);
            x.scales(0, 0);
            edges.is("first wrong", Due.passes(x, 1, 0, 0), 0);
            edges.is("no READINGS", had(x, 0, 0, 0), 992);
            x.reading(0, 4);
            edges.is("one that is 4 behind them", had(x, 0, 0, 0), 512);
        });
        edges.of(15, "all READINGS are so: of another FISH, too", x -> {
            Due.tell(x, TWO);
            x.reading(1, 1);
            edges.is("it is so", had(x, 0), 1023);
            edges.is("of the other itself", had(x, 1), 2);
            x.reading(1, 2);
            edges.is("both can't be", had(x, 1), 0);
            edges.is("nor by the first", had(x, 0), 0);
        });
        edges.of(15, "eight READINGS: the last one counts", x -> {
            Due.tell(x, TWO);
            for (int k = 0; k < 7; k++) {
                x.reading(0, 4);
            }
            edges.is("seven", had(x, 0), 16);
            x.reading(0, 5);
            edges.is("eight", had(x, 0), 0);
        });
        edges.of(15, "behind PASSES: of one that lends, in between, too", x -> {
            Due.tell(x, "h0;f4065;e9065;e9765");
            x.reading(2, 7);
            edges.is("1 lends", had(x, 1, 0, 3), 1008);
            x.back(1);
            x.reading(2, 3);
            edges.is("2 lends", had(x, 1, 0, 3), 15);
        });
        edges.of(15, "its own SCALES stay", x -> {
            Due.tell(x, TWO);
            had(x, 0, 0, 0);
            edges.is("ofFish(0, 2)", x.ofFish(0, 2), 9);
            edges.is("left", x.passes(1, 2, 0, 1, 10), 4);
        });
        unknownFish(15);
    }

    /** UNKNOWN: FISH, of had() and kinds(). */
    private static void unknownFish(int promise) {
        edges.of(promise, "UNKNOWN: FISH, ahead of OUTSIDE and of FAULTS", x -> {
            edges.is("no FORD", promise == 15 ? x.had(0, 0, 3, 0, 0) : x.kinds(0, 0, 3, 0, 0), UNKNOWN);
            Due.tell(x, FIVE);
            for (int f : new int[] {-1, 5, MOST, LEAST}) {
                edges.is("FISH " + f, promise == 15 ? x.had(f, 0, 0, 0, 0) : x.kinds(f, 0, 0, 0, 0), UNKNOWN);
                edges.is("FISH " + f + ", n", promise == 15 ? x.had(f, 0, 0, 0, 21) : x.kinds(f, 0, 0, 0, 21), UNKNOWN);
                edges.is("FISH " + f + ", NULL", promise == 15 ? x.had(f, 1, 0, 0, 0) : x.kinds(f, 1, 0, 0, 0), UNKNOWN);
                edges.is("fault()", x.fault(), 0);
            }
            edges.is("FISH 4", promise == 15 ? x.had(4, 0, 0, 0, 0) : x.kinds(4, 0, 0, 0, 0), promise == 15 ? 1023 : 7);
        });
    }

    private static int dears(HeronFord x, int... pairs) {
        int n = Due.row(x, pairs);
        return x.dears(1, 2, 0, n);
    }

    private static void dears() {
        edges.of(16, "those (0 .. 9): all, and none", x -> {
            Due.tell(x, TWO);
            edges.is("all, behind none", dears(x), 1023);
            edges.is("none, by what can't be", dears(x, 1, 2), 0);
            edges.is("all, by a song", dears(x, 0, 1), 1023);
        });
        edges.of(16, "0 and 9 are among them", x -> {
            Due.tell(x, "h2;f1965");
            x.scales(0, 10);
            x.reading(0, 9);
            edges.is("0", dears(x, 0, 0), 1);
            x.back(1);
            x.reading(0, 0);
            edges.is("9", dears(x, 0, 0), 512);
        });
        edges.of(16, "that they can't be as it is now does not matter", x -> {
            Due.tell(x, "h9;f3965");
            edges.is("first wrong", Due.passes(x, 1, 0, 0), 0);
            edges.is("no READINGS", dears(x, 0, 0), 127);
            x.reading(0, 0);
            edges.is("6", dears(x, 0, 0), 64);
        });
        edges.of(16, "all READINGS are so", x -> {
            Due.tell(x, TWO);
            x.reading(0, 4);
            edges.is("one", dears(x, 0, 0), 4);
            x.reading(1, 1);
            edges.is("of another", dears(x, 0, 0), 4);
            x.reading(1, 0);
            edges.is("that can't be", dears(x, 0, 0), 0);
            edges.is("nor behind none", dears(x), 0);
        });
        edges.of(16, "downstream it does not matter", x -> {
            Due.tell(x, "h0;f3905");
            x.reading(0, 6);
            edges.is("up by a song, down by scales", dears(x, 0, 1, 0, 0), 1023);
        });
        edges.of(16, "how DEAR it is stays", x -> {
            Due.tell(x, TWO);
            dears(x, 0, 0);
            edges.is("many(1)", x.many(1), 2);
            edges.is("toll", x.toll(0, 1, 2, 0, 0), 5);
        });
        edges.of(16, "as passes(): no FORD", x -> {
            x.sheet(0, 0, 0);
            edges.is("dears", x.dears(0, 0, 0, 0), STATE);
        });
    }

    private static int kinds(HeronFord x, int f, int... pairs) {
        int n = Due.row(x, pairs);
        return x.kinds(f, 1, 2, 0, n);
    }

    private static void kinds() {
        edges.of(17, "those (0 .. 2): all, and none", x -> {
            Due.tell(x, TWO);
            edges.is("all, behind none", kinds(x, 0), 7);
            edges.is("none, by what can't be", kinds(x, 0, 1, 2), 0);
        });
        edges.of(17, "each by what was left", x -> {
            Due.tell(x, "h0;f9965");
            int[] left = {0, 1, 5};
            for (int kind = 0; kind < 3; kind++) {
                x.reading(0, left[kind]);
                edges.is("kind " + kind, kinds(x, 0, 0, 0), 1 << kind);
                x.back(1);
            }
            x.reading(0, 4);
            edges.is("none of them", kinds(x, 0, 0, 0), 0);
        });
        edges.of(17, "kinds of the same SHARE are not told apart", x -> {
            Due.tell(x, "h0;f1965;f1965");
            x.reading(0, 9);
            edges.is("an EEL or a PIKE of SIZE 1", kinds(x, 0, 0, 0), 6);
        });
        edges.of(17, "an EEL lends, a PIKE, too", x -> {
            Due.tell(x, "h0;f3065;f9965");
            edges.is("of the lender", kinds(x, 1, 0, 3), 6);
            edges.is("of the borrower", kinds(x, 0, 0, 3), 0);
        });
        edges.of(17, "that they can't be as it is now does not matter", x -> {
            Due.tell(x, "h0;f9465");
            edges.is("first wrong", Due.passes(x, 1, 0, 0), 0);
            edges.is("kinds", kinds(x, 0, 0, 0), 4);
            x.reading(0, 0);
            edges.is("kinds, one read", kinds(x, 0, 0, 0), 4);
            x.reading(0, 1);
            edges.is("kinds, unlike ones", kinds(x, 0, 0, 0), 0);
        });
        edges.of(17, "its own kind stays", x -> {
            Due.tell(x, "h0;e9465");
            kinds(x, 0, 0, 0);
            edges.is("ofFish(0, 0)", x.ofFish(0, 0), 1);
            edges.is("ofFish(0, 5)", x.ofFish(0, 5), 8);
        });
        unknownFish(17);
    }

    private static void share(HeronFord x, int upper, int lower, int... pairs) {
        int n = Due.row(x, pairs);
        edges.is("upper", x.odds(1, 2, 0, n, 0), upper);
        edges.is("lower", x.odds(1, 2, 0, n, 1), lower);
    }

    private static void odds() {
        edges.of(18, "all: 1 of 1", unused -> {
            HeronFord x = Due.told(FIVE);
            share(x, 1, 1);
            share(x, 1, 1, 0, 0);
        });
        edges.of(18, "none: 0 of 1", unused -> {
            HeronFord x = Due.told(FIVE);
            share(x, 0, 1, 3, 0);
            share(x, 0, 1, 0, 1, 1, 1);
            share(x, 0, 1, 3, 1);
        });
        edges.of(18, "least terms: one SONG to five", x -> {
            Due.tell(x, "h0;f1005;f1015;f1025;f1035;f1045");
            share(x, 1, 2, 0, 1);
            share(x, 1, 4, 0, 1, 1, 1);
            share(x, 1, 8, 0, 1, 1, 1, 2, 1);
            share(x, 1, 16, 0, 1, 1, 1, 2, 1, 3, 1);
            share(x, 1, 32, 0, 1, 1, 1, 2, 1, 3, 1, 4, 1);
        });
        edges.of(18, "each of SONGS 0 .. 5", x -> {
            Due.tell(x, "h0;f1005;f1055;f1065");
            share(x, 1, 2, 0, 1);
            share(x, 1, 2, 1, 1);
            share(x, 0, 1, 2, 1);
        });
        edges.of(18, "in place of what it KNOWS", x -> {
            Due.tell(x, "h0;f1005");
            for (int set : new int[] {0, 1, 63}) {
                x.hear(set);
                share(x, 1, 2, 0, 1);
                edges.is("many(2)", x.many(2), set);
            }
        });
        edges.of(18, "READINGS do not matter", x -> {
            Due.tell(x, "h0;f1005");
            x.reading(0, 50);
            share(x, 1, 2, 0, 1);
        });
        edges.of(18, "which 0 the upper, 1 the lower number", x -> {
            Due.tell(x, "h0;f1005");
            Due.row(x, 0, 1);
            edges.is("which 0", x.odds(1, 2, 0, 1, 0), 1);
            edges.is("which 1", x.odds(1, 2, 0, 1, 1), 2);
            for (int which : new int[] {-1, 2, 10, MOST, LEAST}) {
                edges.is("which " + which, x.odds(1, 2, 0, 1, which), LOST);
                edges.is("fault()", x.fault(), 0);
            }
        });
    }

    private static void oddsLost() {
        edges.of(18, "LOST: UNKNOWN, OUTSIDE, STATE are no FAULTS", x -> {
            edges.is("SHEET", x.odds(4, 0, 0, 0, 0), LOST);
            edges.is("fault()", x.fault(), 0);
            edges.is("lane", x.odds(0, 3, 0, 0, 0), LOST);
            edges.is("fault()", x.fault(), 0);
            for (int n : new int[] {-1, 21, MOST, LEAST}) {
                edges.is("n " + n, x.odds(0, 0, 0, n, 0), LOST);
                edges.is("fault()", x.fault(), 0);
            }
            x.sheet(0, 0, 0);
            edges.is("no FORD", x.odds(0, 0, 0, 0, 0), LOST);
            edges.is("fault()", x.fault(), 0);
            Due.tell(x, FIVE);
            Due.row(x, 0, 4);
            edges.is("how", x.odds(1, 2, 0, 1, 0), LOST);
            edges.is("fault()", x.fault(), 0);
            Due.row(x, 5, 0);
            edges.is("FISH", x.odds(1, 2, 0, 1, 0), LOST);
            edges.is("fault()", x.fault(), 0);
        });
        edges.of(18, "LOST: FAULTS NULL, CAST, INDEX", x -> {
            edges.is("NULL", x.odds(0, 0, -1, 0, 0), LOST);
            edges.is("fault()", x.fault(), 1);
            x.sheet(0, 1, 2);
            edges.is("CAST", x.odds(0, 0, -1, 0, 0), LOST);
            edges.is("fault()", x.fault(), 2);
            for (int i : new int[] {-1, 1, 3, MOST, LEAST}) {
                edges.is("INDEX " + i, x.odds(0, 1, i, 1, 0), LOST);
                edges.is("fault()", x.fault(), 3);
            }
        });
        edges.of(18, "which is OUTSIDE ahead of FAULTS", x -> {
            edges.is("NULL", x.odds(0, 0, 0, 0, 2), LOST);
            edges.is("fault()", x.fault(), 0);
        });
        edges.of(18, "PASSES with a FIRST WRONG are not LOST", x -> {
            Due.tell(x, "h0;f1065");
            share(x, 0, 1, 0, 0);
            edges.is("fault()", x.fault(), 0);
        });
    }
}
