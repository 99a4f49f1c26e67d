/** The boundary cases of promises 10 to 12: least, payments, wants. */
public final class LeastEdgeTest {
    private static final int UNKNOWN = Edges.UNKNOWN, OUTSIDE = Edges.OUTSIDE, STATE = Edges.STATE, NONE = Edges.NONE;
    private static final int MOST = Edges.MOST, LEAST = Edges.LEAST;
    private static final String FIVE = Edges.FIVE;

    private static final Edges edges = new Edges(10, 12);

    public static void main(String[] args) {
        leastRefused();
        leastCount();
        leastWays();
        leastFirst();
        leastKept();
        payments();
        wants();
        edges.end();
    }

    private static void leastRefused() {
        edges.of(10, "UNKNOWN: k below -1", unused -> {
            HeronFord x = Due.told(FIVE);
            edges.is("k -1", x.least(15, -1), 5);
            edges.is("k -2", x.least(15, -2), UNKNOWN);
            edges.is("k LEAST", x.least(15, LEAST), UNKNOWN);
        });
        edges.of(10, "OUTSIDE: ways (1 .. 15)", unused -> {
            HeronFord x = Due.told("h0;f1905");
            edges.is("ways 1", x.least(1, -1), 1);
            edges.is("ways 15", x.least(15, -1), 0);
            for (int ways : new int[] {0, 16, -1, 17, MOST, LEAST}) {
                edges.is("ways " + ways, x.least(ways, -1), OUTSIDE);
                edges.is("ways " + ways + ", too many", x.least(ways, 5), OUTSIDE);
            }
        });
        edges.of(10, "UNKNOWN ahead of OUTSIDE ahead of STATE", x -> {
            edges.is("all", x.least(0, -2), UNKNOWN);
            edges.is("UNKNOWN, STATE", x.least(1, -2), UNKNOWN);
            edges.is("OUTSIDE, STATE", x.least(16, -1), OUTSIDE);
            edges.is("STATE", x.least(15, -1), STATE);
        });
        edges.of(10, "STATE: there is no FORD, for each k", x -> {
            for (int k : new int[] {-1, 0, 4, 5, MOST}) {
                edges.is("k " + k, x.least(1, k), STATE);
            }
        });
    }

    private static void leastCount() {
        edges.of(10, "its k-th PASS (0 on); NONE: there are fewer", x -> {
            for (int count = 1; count <= 5; count++) {
                Due.tell(x, "h0;f1965;f1965;f1965;f1965;f1965".substring(0, 2 + 6 * count));
                edges.is("got of " + count, x.least(1, -1), count);
                for (int k = 0; k < 7; k++) {
                    edges.is("PASS " + k + " of " + count, x.least(1, k), k < count ? 10 * k : NONE);
                }
                edges.is("far off", x.least(1, MOST), NONE);
            }
        });
        edges.of(10, "NONE: it can't be, for each k", x -> {
            Due.tell(x, "h0;f1965;f2165");
            for (int k : new int[] {-1, 0, 1, 2, MOST}) {
                edges.is("k " + k, x.least(1, k), NONE);
            }
        });
        edges.of(10, "as many SCALES as the TOLL is, or one less", x -> {
            Due.tell(x, "h4;f5965");
            edges.is("as many", x.least(1, -1), 9);
            x.scales(0, 8);
            edges.is("one less", x.least(1, -1), NONE);
            x.dear(3);
            edges.is("one less DEAR", x.least(1, -1), 8);
        });
        edges.of(10, "the fewest is 0, and the most", x -> {
            Due.tell(x, "h9;f9905;f9915;f9925;f9935;f9945");
            edges.is("by songs", x.least(2, -1), 0);
            for (int f = 0; f < 5; f++) {
                x.scales(f, 99);
            }
            edges.is("by scales", x.least(1, -1), 90);
        });
    }

    private static void leastWays() {
        edges.of(10, "bit k: how k may be", x -> {
            // both can pass by each how; by a song or a secret at no scales
            Due.tell(x, "h0;e2901;e2910");
            for (int ways = 1; ways < 16; ways++) {
                int how = (ways & 2) != 0 ? 1 : (ways & 4) != 0 ? 2 : (ways & 1) != 0 ? 0 : 3;
                edges.is("got by " + ways, x.least(ways, -1), how == 1 || how == 2 ? 0 : 2);
                edges.is("0 by " + ways, x.least(ways, 0), how);
                edges.is("1 by " + ways, x.least(ways, 1), 10 + how);
            }
        });
        edges.of(10, "a how that may not be is not taken", x -> {
            // it has a song and scales, no secret and no lender
            Due.tell(x, "h0;f5905");
            for (int ways = 1; ways < 16; ways++) {
                int got = (ways & 2) != 0 ? 0 : (ways & 1) != 0 ? 5 : NONE;
                edges.is("got by " + ways, x.least(ways, -1), got);
                edges.is("0 by " + ways, x.least(ways, 0), got == 0 ? 1 : got == 5 ? 0 : NONE);
            }
        });
        edges.of(10, "all FISH PASS, each but once", x -> {
            // 0 could pass by its song, down by scales: it passes once
            Due.tell(x, "h0;f1905;f1165");
            edges.is("got", x.least(3, -1), 1);
            edges.is("0", x.least(3, 0), 1);
            edges.is("1", x.least(3, 1), 10);
            edges.is("2", x.least(3, 2), NONE);
            x.scales(1, 0);
            edges.is("one of two can't", x.least(3, -1), NONE);
        });
        edges.of(10, "SONGS that it KNOWS ahead", x -> {
            Due.tell(x, "h0;f1905");
            edges.is("it does not", x.least(2, -1), 0);
            x.hear(1);
            edges.is("it does", x.least(2, -1), NONE);
            x.hear(62);
            edges.is("all others", x.least(2, -1), 0);
        });
        edges.of(10, "in any order: the last ahead of the first", x -> {
            // 0 tells 1's secret: dear for 1, if that is below yet
            Due.tell(x, "h0;f9061;f2465");
            edges.is("got", x.least(5, -1), 2);
            edges.is("0", x.least(5, 0), 10);
            edges.is("1", x.least(5, 1), 2);
            Due.tell(x, "h0;f2465;f9060");
            edges.is("got, the other way", x.least(5, -1), 2);
            edges.is("0, the other way", x.least(5, 0), 0);
            edges.is("1, the other way", x.least(5, 1), 12);
        });
    }

    private static void leastFirst() {
        edges.of(10, "of several the first: the least FISH, then the least how", x -> {
            Due.tell(x, "h0;e1001;e1010");
            edges.is("got", x.least(15, -1), 0);
            edges.is("0", x.least(15, 0), 0);
            edges.is("1", x.least(15, 1), 10);
            edges.is("0 but by scales", x.least(14, 0), 1);
            edges.is("1 but by scales", x.least(14, 1), 11);
            edges.is("0 by secret, credit", x.least(12, 0), 2);
            edges.is("1 by secret, credit", x.least(12, 1), 12);
            edges.is("0 by credit", x.least(8, 0), 3);
            edges.is("1 by credit", x.least(8, 1), 13);
        });
        edges.of(10, "of several the first, PASS by PASS: the one ahead counts most", x -> {
            // as few by 0 by scales, 1 by its song, as by 0 by its song, 1 by scales
            Due.tell(x, "h0;f1905;f1905");
            edges.is("got", x.least(3, -1), 1);
            edges.is("0", x.least(3, 0), 0);
            edges.is("1", x.least(3, 1), 11);
        });
        edges.of(10, "the fewest ahead of the first", x -> {
            Due.tell(x, "h0;f2905;f1905");
            edges.is("got", x.least(3, -1), 1);
            edges.is("0", x.least(3, 0), 1);
            edges.is("1", x.least(3, 1), 10);
        });
        edges.of(10, "the row is one that passes() takes, with as many SCALES", unused -> {
            HeronFord x = Due.told(FIVE);
            int[] pairs = new int[10];
            for (int k = 0; k < 5; k++) {
                pairs[2 * k] = x.least(15, k) / 10;
                pairs[2 * k + 1] = x.least(15, k) % 10;
            }
            edges.is("got", Due.passes(x, 0, pairs), 5);
            edges.is("above", Due.passes(x, 4, pairs), 31);
        });
    }

    private static void leastKept() {
        edges.of(10, "as the FORD is at the call", x -> {
            Due.tell(x, "h1;f3465;f2365");
            edges.is("at first", x.least(1, -1), 7);
            x.dear(0);
            edges.is("behind dear()", x.least(1, -1), 5);
            x.scales(1, 1);
            edges.is("behind scales()", x.least(1, -1), NONE);
            x.scales(1, 2);
            edges.is("behind scales()", x.least(1, -1), 5);
            Due.tell(x, "h1;f3405");
            edges.is("behind ford()", x.least(3, -1), 0);
            x.hear(1);
            edges.is("behind hear()", x.least(3, -1), 4);
        });
        edges.of(10, "PASSES, READINGS do not matter", unused -> {
            HeronFord x = Due.told(FIVE);
            Due.passes(x, 0, 0, 0, 1, 0);
            x.reading(0, 77);
            edges.is("got", x.least(15, -1), 5);
            int[] row = {2, 11, 21, 32, 43};
            for (int k = 0; k < 5; k++) {
                edges.is("PASS " + k, x.least(15, k), row[k]);
            }
        });
    }

    private static void payments() {
        edges.of(11, "nobody OWES: none", unused -> {
            HeronFord x = Due.told(FIVE);
            edges.is("behind none", x.payments(0, 0, 0, 0), 0);
            edges.is("by scales", payments(x, 0, 0, 1, 0), 0);
        });
        edges.of(11, "the fewest: one OWES one", unused -> {
            HeronFord x = Due.told(FIVE);
            edges.is("once", payments(x, 3, 3), 1);
            edges.is("twice the same", payments(x, 3, 3, 3, 3), 1);
        });
        edges.of(11, "the most of five FISH: four", x -> {
            Due.tell(x, "h0;f1065;f2065;f3065;f4065;e9965");
            x.scales(4, 99);
            edges.is("four to one", payments(x, 0, 3, 1, 3, 2, 3, 3, 3), 4);
        });
        edges.of(11, "of any number of SCALES: one pays for another", x -> {
            // 0 owes 1, 1 owes 2 as much
            Due.tell(x, "h0;f4065;e5465;e4465");
            edges.is("a chain of equals", payments(x, 0, 3, 1, 3), 1);
            Due.tell(x, "h0;f3065;e5465;e4465");
            edges.is("a chain of unequals", payments(x, 0, 3, 1, 3), 2);
        });
        edges.of(11, "what one OWES, less what others OWE it, counts alone", x -> {
            Due.tell(x, "h0;e5965;e5965");
            edges.is("even", payments(x, 0, 3, 1, 3), 0);
            edges.is("not yet", payments(x, 0, 3), 1);
            Due.tell(x, "h0;e5965;e4965");
            edges.is("not even", payments(x, 0, 3, 1, 3), 1);
        });
        edges.of(11, "a TOLL of 0 is OWED by none", x -> {
            Due.tell(x, "h0;e1065;e1065");
            edges.is("payments", payments(x, 0, 3, 1, 3), 0);
        });
        edges.of(11, "two that are even by themselves, and three", x -> {
            // 0 owes 3 its 2, 1 owes 4 its 3
            Due.tell(x, "h0;f2065;f3065;f1065;e9265;e9465");
            edges.is("two pairs", payments(x, 0, 3, 1, 3), 2);
            // 2 owes 4 its 1, too
            edges.is("a pair and three", payments(x, 0, 3, 1, 3, 2, 3), 3);
        });
        edges.of(11, "the fewest: fewer than are OWED, as two pay whom they do not owe", x -> {
            // 0 owes 2 its 3, and 3 its 2; 1 owes 3 its 3: 0 pays 3 its 5, 1 pays 2 its 3
            Due.tell(x, "h1;f2065;f2065;e9365;e9965");
            edges.is("payments", payments(x, 0, 3, 0, 3, 1, 3), 2);
            edges.is("owes(0, 2)", x.owes(0, 2, 1, 2, 0, 3), 3);
            edges.is("owes(0, 3)", x.owes(0, 3, 1, 2, 0, 3), 2);
            edges.is("owes(1, 3)", x.owes(1, 3, 1, 2, 0, 3), 3);
        });
        edges.of(11, "-100 less the FIRST WRONG", x -> {
            Due.tell(x, "h0;e1065;f1065");
            edges.is("0", payments(x, 1, 0), -100);
            int[] pairs = new int[40];
            pairs[38] = 1;
            edges.is("19", payments(x, pairs), -119);
        });
        edges.of(11, "as passes(), without what: no FORD", x -> {
            x.sheet(0, 0, 0);
            edges.is("payments", x.payments(0, 0, 0, 0), STATE);
        });
    }

    private static int payments(HeronFord x, int... pairs) {
        int n = Due.row(x, pairs);
        return x.payments(1, 2, 0, n);
    }

    private static int wants(HeronFord x, int f, int... pairs) {
        int n = Due.row(x, pairs);
        return x.wants(f, 1, 2, 0, n);
    }

    private static void wants() {
        edges.of(12, "the fewest more: 0, as it can be", unused -> {
            HeronFord x = Due.told(FIVE);
            for (int f = 0; f < 5; f++) {
                edges.is("behind none, " + f, x.wants(f, 0, 0, 0, 0), 0);
                edges.is("as many as the TOLL, " + f, wants(x, f, 2, 0), 0);
            }
        });
        edges.of(12, "the fewest more: 1", x -> {
            Due.tell(x, "h4;f5965");
            x.scales(0, 8);
            edges.is("one less than the TOLL", wants(x, 0, 0, 0), 1);
        });
        edges.of(12, "0 .. 99; NONE: not by so many", x -> {
            Due.tell(x, "h9;f9065;f1965");
            Due.row(x, new int[16]);
            // up 18, down 9, ..: seven are 99, eight are 108
            edges.is("99", x.wants(0, 1, 2, 0, 7), 99);
            edges.is("108", x.wants(0, 1, 2, 0, 8), NONE);
            x.scales(0, 8);
            edges.is("108 of 8", x.wants(0, 1, 2, 0, 8), NONE);
            x.scales(0, 9);
            edges.is("108 of 9", x.wants(0, 1, 2, 0, 8), 99);
        });
        edges.of(12, "more than 99 in all", x -> {
            Due.tell(x, "h9;f9065");
            x.scales(0, 99);
            Due.row(x, new int[32]);
            // fifteen are 207, fourteen 189
            edges.is("189 of 99", x.wants(0, 1, 2, 0, 14), 90);
            edges.is("207 of 99", x.wants(0, 1, 2, 0, 15), NONE);
        });
        edges.of(12, "NONE: where SCALES do not help", unused -> {
            HeronFord x = Due.told(FIVE);
            edges.is("a song again", wants(x, 0, 0, 1, 0, 1), NONE);
            edges.is("of another", wants(x, 1, 3, 0), NONE);
            edges.is("itself", wants(x, 3, 3, 0), 3);
        });
        edges.of(12, "it must have them at first, in place of what it has", x -> {
            Due.tell(x, "h0;f5265");
            edges.is("wants", wants(x, 0, 0, 0), 3);
            edges.is("ofFish(0, 2)", x.ofFish(0, 2), 2);
            edges.is("wants again", x.wants(0, 1, 2, 0, 1), 3);
        });
        edges.of(12, "of an EEL that lends", x -> {
            Due.tell(x, "h0;f7065;e9265;f1065");
            edges.is("of the lender", wants(x, 1, 0, 3), 5);
            edges.is("of the borrower", wants(x, 0, 0, 3), NONE);
            edges.is("of the lender, for two", wants(x, 1, 0, 3, 2, 3), 6);
        });
        edges.of(12, "the fewest, though some more can't be", x -> {
            // with 1 more it pays its own; with 3 more it lends them, and can't
            Due.tell(x, "h0;f3065;e2065;e9965");
            edges.is("wants", wants(x, 1, 0, 3, 1, 0), 1);
        });
        edges.of(12, "READINGS do not matter", x -> {
            Due.tell(x, "h0;f5265");
            x.reading(0, 50);
            edges.is("wants", wants(x, 0, 0, 0), 3);
        });
        edges.of(12, "UNKNOWN: FISH, ahead of OUTSIDE and of FAULTS", x -> {
            edges.is("no FORD, lane", x.wants(0, 0, 3, 0, 0), UNKNOWN);
            Due.tell(x, FIVE);
            for (int f : new int[] {-1, 5, MOST, LEAST}) {
                edges.is("wants(" + f + ")", x.wants(f, 0, 0, 0, 0), UNKNOWN);
                edges.is("wants(" + f + "), NULL", x.wants(f, 1, 3, 0, 21), UNKNOWN);
                edges.is("fault()", x.fault(), 0);
            }
        });
    }
}
