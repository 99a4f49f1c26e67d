/** The boundary cases of promises 1 to 6: a new object, the text, what a fish is, dear, scales, hear. */
public final class FordEdgeTest {
    private static final int UNKNOWN = Edges.UNKNOWN, OUTSIDE = Edges.OUTSIDE, STATE = Edges.STATE;
    private static final int NULL = Edges.NULL, CAST = Edges.CAST, INDEX = Edges.INDEX, SIZE = Edges.SIZE;
    private static final int MOST = Edges.MOST, LEAST = Edges.LEAST;
    private static final String FIVE = Edges.FIVE;

    private static final Edges edges = new Edges(1, 6);

    public static void main(String[] args) {
        newObject();
        codesOfAText();
        howManyFish();
        firstFault();
        allAnew();
        cellsOfAText();
        refusalsOfFord();
        faultsOfFord();
        ofFish();
        dear();
        scales();
        hear();
        edges.end();
    }

    private static void newObject() {
        edges.of(1, "no FORD (no FISH)", x -> {
            for (int what = 0; what < 4; what++) {
                edges.is("many(" + what + ")", x.many(what), 0);
            }
            edges.is("ofFish(0, 0)", x.ofFish(0, 0), UNKNOWN);
            edges.is("dear(0)", x.dear(0), STATE);
            edges.is("hear(0)", x.hear(0), STATE);
            edges.is("least(15, -1)", x.least(15, -1), STATE);
        });
        edges.of(1, "SHEETS have nothing", x -> {
            for (int k = 0; k < 4; k++) {
                edges.is("put(" + k + ", 0, 0)", x.put(k, 0, 0), NULL);
                edges.is("lose(" + k + ")", x.lose(k), 0);
            }
        });
        edges.of(1, "objects have nothing of one another", x -> {
            HeronFord other = Due.told(FIVE);
            other.tell(0);
            other.put(0, 99, 0);
            edges.is("many(0)", x.many(0), 0);
            edges.is("lose(0)", x.lose(0), 0);
            edges.is("trace()", x.trace(), 0);
            edges.is("fault()", x.fault(), 0);
            Due.tell(x, "h9;p1000");
            edges.is("many(0) of the other", other.many(0), 5);
            edges.is("many(1) of the other", other.many(1), 2);
        });
    }

    /** The code at a place of a text becomes each of some: those are taken, or the first fault is there. */
    private static void codeAt(String sentence, int place, String taken, String refused) {
        String text = "h4;f3455;e3455;p3455;f3455;e3455";
        edges.of(2, sentence + ", at " + place + ", taken", x -> {
            for (char code : taken.toCharArray()) {
                String other = text.substring(0, place) + code + text.substring(place + 1);
                edges.is("ford " + other, Due.tell(x, other), 5);
            }
        });
        edges.of(2, sentence + ", at " + place + ", a FIRST FAULT", x -> {
            for (char code : refused.toCharArray()) {
                String other = text.substring(0, place) + code + text.substring(place + 1);
                edges.is("ford " + other, Due.tell(x, other), -100 - place);
                edges.is("many(0)", x.many(0), 0);
            }
        });
    }

    private static void codesOfAText() {
        codeAt("h", 0, "h", "giH0;\0\u007f");
        codeAt("a digit 0 .. 9 (DEAR)", 1, "019", "/:h;\0");
        for (int fish : new int[] {0, 1, 4}) {
            int place = 2 + 6 * fish;
            codeAt(";", place, ";", ":<,0h");
            codeAt("a letter", place + 1, "fep", "dgoqFEPh;0");
            codeAt("a digit 1 .. 9 (SIZE)", place + 2, "129", "0/:f;");
            codeAt("a digit 0 .. 9 (SCALES)", place + 3, "019", "/:f;");
            codeAt("a digit 0 .. 6 (SONG)", place + 4, "016", "/79:f;");
            codeAt("a digit 0 .. 5 (SECRET)", place + 5, "015", "/69:f;");
        }
        edges.of(2, "digits are their numbers", x -> {
            edges.is("ford", Due.tell(x, "h9;e9965;p1000"), 2);
            int[][] fish = {{1, 9, 9, 6, 5}, {2, 1, 0, 0, 0}};
            for (int what = 0; what < 5; what++) {
                edges.is("ofFish(0, " + what + ")", x.ofFish(0, what), fish[0][what]);
                edges.is("ofFish(1, " + what + ")", x.ofFish(1, what), fish[1][what]);
            }
            edges.is("many(1)", x.many(1), 9);
        });
        edges.of(2, "codes are numbers of cells: below 0, or so many more, are none", x -> {
            for (int code : new int[] {-104, 104 + 256, 104 + 65536, 104 - 256, MOST, LEAST, 0, -1}) {
                Due.fill(x, 0, 2, code, 48, 59, 102, 49, 48, 48, 48);
                edges.is("ford of " + code, x.ford(0, 2, 0, 8), -100);
            }
            Due.fill(x, 0, 1, 104, 48 + 256, 59, 102, 49, 48, 48, 48);
            edges.is("ford of a short", x.ford(0, 1, 0, 8), -101);
        });
        edges.of(2, "codes that are cut to their LANE", x -> {
            Due.fill(x, 0, 0, 104 + 256, 48 - 256, 59, 102, 49, 48, 48, 48);
            edges.is("ford of bytes", x.ford(0, 0, 0, 8), 1);
            Due.fill(x, 0, 1, 104 + 65536, 57 - 65536, 59, 102, 49, 48, 48, 48);
            edges.is("ford of shorts", x.ford(0, 1, 0, 8), 1);
            edges.is("many(1)", x.many(1), 9);
        });
    }

    private static String fish(int count) {
        return "h0" + ";f1000".repeat(count);
    }

    private static void howManyFish() {
        edges.of(2, "1 to 5 FISH: 1 and 5 are taken", x -> {
            for (int count = 1; count <= 5; count++) {
                edges.is("ford of " + count, Due.tell(x, fish(count)), count);
                edges.is("many(0)", x.many(0), count);
                edges.is("the last", x.ofFish(count - 1, 1), 1);
                edges.is("behind the last", x.ofFish(count, 1), UNKNOWN);
            }
        });
        edges.of(2, "1 to 5 FISH: none is too few", x -> edges.is("ford", Due.tell(x, fish(0)), -102));
        edges.of(2, "the ; of a sixth FISH", x -> {
            edges.is("ford of six", Due.tell(x, fish(6)), -132);
            edges.is("ford of five and ;", Due.tell(x, fish(5) + ";"), -132);
            edges.is("ford of nine", Due.tell(x, fish(9)), -132);
            edges.is("many(0)", x.many(0), 0);
        });
        edges.of(2, "no code goes on behind a fifth FISH", x -> {
            for (char code : "h0f\0".toCharArray()) {
                edges.is("ford of five and " + code, Due.tell(x, fish(5) + code), -132);
            }
            edges.is("ford of 60 codes", Due.tell(x, fish(5) + "0".repeat(28)), -132);
        });
    }

    private static void firstFault() {
        edges.of(2, "how many codes there are, if it just ends too soon", x -> {
            Due.fill(x, 0, 0, Due.codes(FIVE));
            for (int n = 0; n <= 32; n++) {
                boolean whole = n >= 8 && (n - 2) % 6 == 0;
                edges.is("ford of " + n, x.ford(0, 0, 0, n), whole ? (n - 2) / 6 : -100 - n);
            }
        });
        edges.of(2, "of several faults the first", x -> {
            edges.is("0 and 1", Due.tell(x, "xx;f1000"), -100);
            edges.is("4 and 6", Due.tell(x, "h0;f0070"), -104);
            edges.is("7 and too soon", Due.tell(x, "h0;f1006;"), -107);
            edges.is("7 and a sixth", Due.tell(x, "h0;f1006" + fish(5).substring(2)), -107);
            edges.is("31 and a sixth", Due.tell(x, fish(5).substring(0, 31) + "6;f1000"), -131);
        });
        edges.of(2, "-100 less the FIRST FAULT is no FAULT", x -> {
            x.put(0, 0, 0);
            edges.is("fault()", x.fault(), 1);
            edges.is("ford", Due.tell(x, "x"), -100);
            edges.is("fault()", x.fault(), 0);
        });
    }

    private static HeronFord used() {
        HeronFord x = Due.told(FIVE);
        x.dear(5);
        x.scales(0, 77);
        x.hear(9);
        x.reading(0, 1);
        x.tell(0);
        return x;
    }

    private static void allAnew() {
        edges.of(2, "a TEXT that is taken makes all anew", unused -> {
            HeronFord x = used();
            edges.is("ford", Due.tell(x, FIVE), 5);
            edges.is("many(1)", x.many(1), 2);
            edges.is("ofFish(0, 2)", x.ofFish(0, 2), 9);
        });
        edges.of(2, "the heron KNOWS no SONGS, no READINGS", unused -> {
            HeronFord x = used();
            edges.is("ford", Due.tell(x, FIVE), 5);
            edges.is("many(2)", x.many(2), 0);
            edges.is("many(3)", x.many(3), 0);
            edges.is("reading", x.reading(0, 0), 0);
        });
        edges.of(2, "fewer FISH than there were", unused -> {
            HeronFord x = used();
            edges.is("ford", Due.tell(x, "h0;e8000"), 1);
            edges.is("ofFish(0, 1)", x.ofFish(0, 1), 8);
            edges.is("ofFish(1, 1)", x.ofFish(1, 1), UNKNOWN);
            edges.is("its SECRET is of none that there is", Due.passes(x, 1, 0, 3), 0);
        });
        edges.of(2, "but for the SHEETS and TRACE", unused -> {
            HeronFord x = used();
            Due.fill(x, 3, 2, 7);
            int trace = x.trace();
            edges.is("ford", Due.tell(x, "h0;e8000"), 1);
            edges.is("trace()", x.trace(), trace);
            edges.is("a cell", x.cell(3, 0, 2), 7);
            edges.is("a cell of the TEXT", x.cell(0, 3, 0), 'e');
        });
        edges.of(2, "a TEXT with a FIRST FAULT changes nothing", unused -> {
            HeronFord x = used();
            edges.is("ford", Due.tell(x, "h0;e8000;"), -109);
            edges.is("many(0)", x.many(0), 5);
            edges.is("many(1)", x.many(1), 5);
            edges.is("many(2)", x.many(2), 9);
            edges.is("many(3)", x.many(3), 1);
            edges.is("ofFish(0, 2)", x.ofFish(0, 2), 77);
            edges.is("ofFish(4, 1)", x.ofFish(4, 1), 4);
        });
    }

    private static void cellsOfAText() {
        edges.of(2, "n cells of a SHEET from i on: the first and the last of 60", x -> {
            for (int lane = 0; lane < 3; lane++) {
                Due.fill(x, 3, lane, Due.codes("h7;e4321" + "?".repeat(44) + "h8;p4321"));
                edges.is("ford at the first", x.ford(3, lane, 0, 8), 1);
                edges.is("many(1)", x.many(1), 7);
                edges.is("ford at the last", x.ford(3, lane, 52, 8), 1);
                edges.is("many(1)", x.many(1), 8);
                edges.is("ford beyond the last", x.ford(3, lane, 52, 9), INDEX);
                edges.is("ford beyond the last", x.ford(3, lane, 53, 8), INDEX);
                edges.is("ford of all", x.ford(3, lane, 0, 60), -108);
                edges.is("ford of more than all", x.ford(3, lane, 0, 61), INDEX);
            }
        });
        edges.of(2, "places count from i on", x -> {
            Due.fill(x, 0, 0, Due.codes("hhh7;x"));
            edges.is("ford from 2 on", x.ford(0, 0, 2, 4), -103);
            edges.is("ford from 1 on", x.ford(0, 0, 1, 5), -101);
            edges.is("ford from 2 on, too soon", x.ford(0, 0, 2, 3), -103);
        });
        edges.of(2, "what is behind the n cells does not matter", x -> {
            Due.fill(x, 0, 0, Due.codes(FIVE));
            edges.is("ford of 14", x.ford(0, 0, 0, 14), 2);
            edges.is("ford of 13", x.ford(0, 0, 0, 13), -113);
        });
    }

    private static void refusalsOfFord() {
        edges.of(2, "UNKNOWN: SHEETS are 0 .. 3", x -> {
            for (int k : new int[] {-1, 4, MOST, LEAST}) {
                edges.is("ford of sheet " + k, x.ford(k, 0, 0, 0), UNKNOWN);
            }
            for (int k = 0; k < 4; k++) {
                Due.fill(x, k, 0, Due.codes("h0;f1000"));
                edges.is("ford of sheet " + k, x.ford(k, 0, 0, 8), 1);
            }
        });
        edges.of(2, "OUTSIDE: lane (0 .. 2)", x -> {
            for (int lane : new int[] {-1, 3, MOST, LEAST}) {
                edges.is("ford of lane " + lane, x.ford(0, lane, 0, 0), OUTSIDE);
            }
        });
        edges.of(2, "UNKNOWN ahead of OUTSIDE", x -> edges.is("ford", x.ford(4, 3, -1, -1), UNKNOWN));
        edges.of(2, "OUTSIDE ahead of NULL", x -> edges.is("ford", x.ford(0, 3, -1, -1), OUTSIDE));
        edges.of(2, "OUTSIDE ahead of CAST", x -> {
            x.sheet(0, 1, 2);
            edges.is("ford", x.ford(0, 3, -1, -1), OUTSIDE);
        });
    }

    private static void faultsOfFord() {
        edges.of(2, "nothing is no CAST", x -> {
            for (int lane = 0; lane < 3; lane++) {
                edges.is("ford of lane " + lane, x.ford(0, lane, 0, 0), NULL);
                edges.is("fault()", x.fault(), 1);
            }
        });
        edges.of(2, "nothing any more", x -> {
            Due.fill(x, 0, 1, 104);
            x.lose(0);
            edges.is("ford", x.ford(0, 0, 0, 1), NULL);
        });
        edges.of(2, "NULL ahead of SIZE and INDEX", x -> edges.is("ford", x.ford(0, 0, -1, -1), NULL));
        edges.of(2, "CAST: each LANE but its own", x -> {
            for (int own = 0; own < 3; own++) {
                x.sheet(0, own, 1);
                for (int lane = 0; lane < 3; lane++) {
                    edges.is("ford", x.ford(0, lane, 0, 1), lane == own ? -100 : CAST);
                    edges.is("fault()", x.fault(), lane == own ? 0 : 2);
                }
            }
        });
        edges.of(2, "CAST ahead of SIZE and INDEX", x -> {
            x.sheet(0, 1, 0);
            edges.is("ford", x.ford(0, 0, -1, -1), CAST);
        });
        edges.of(2, "SIZE: n is below 0", x -> {
            x.sheet(0, 1, 3);
            for (int n : new int[] {-1, LEAST}) {
                edges.is("ford of n " + n, x.ford(0, 1, 0, n), SIZE);
                edges.is("fault()", x.fault(), 4);
            }
            edges.is("ford of n 0", x.ford(0, 1, 0, 0), -100);
        });
        edges.of(2, "SIZE ahead of INDEX", x -> {
            x.sheet(0, 1, 3);
            edges.is("ford", x.ford(0, 1, -1, -1), SIZE);
            edges.is("ford", x.ford(0, 1, MOST, LEAST), SIZE);
        });
        edges.of(2, "INDEX: not all cells are there", x -> {
            x.sheet(0, 1, 3);
            int[][] beyond = {{0, 4}, {1, 3}, {3, 1}, {4, 1}, {-1, 1}, {-1, 4}, {0, MOST}, {1, MOST}, {3, MOST}, {MOST, 1},
                {MOST, MOST}, {LEAST, 1}, {LEAST, MOST}};
            for (int[] b : beyond) {
                edges.is("ford from " + b[0] + " on, " + b[1], x.ford(0, 1, b[0], b[1]), INDEX);
                edges.is("fault()", x.fault(), 3);
            }
            edges.is("ford of all", x.ford(0, 1, 0, 3), -100);
            edges.is("ford of the last", x.ford(0, 1, 2, 1), -100);
        });
        edges.of(2, "INDEX, if none of them is taken, too", x -> {
            x.sheet(0, 1, 3);
            for (int i : new int[] {-1, 4, MOST, LEAST}) {
                edges.is("ford from " + i + " on, none", x.ford(0, 1, i, 0), INDEX);
            }
            edges.is("ford from 0 on, none", x.ford(0, 1, 0, 0), -100);
            edges.is("ford from 3 on, none", x.ford(0, 1, 3, 0), -100);
        });
        edges.of(2, "of a row of none", x -> {
            x.sheet(0, 1, 0);
            edges.is("ford", x.ford(0, 1, 0, 0), -100);
            edges.is("ford", x.ford(0, 1, 1, 0), INDEX);
            edges.is("ford", x.ford(0, 1, 0, 1), INDEX);
        });
    }

    private static void ofFish() {
        edges.of(3, "UNKNOWN: none is there", x -> {
            edges.is("ofFish(0, 0)", x.ofFish(0, 0), UNKNOWN);
            edges.is("ofFish(0, 6)", x.ofFish(0, 6), UNKNOWN);
        });
        edges.of(3, "UNKNOWN: FISH 0 .. as many as there are, less 1", unused -> {
            HeronFord x = Due.told(FIVE);
            edges.is("ofFish(0, 1)", x.ofFish(0, 1), 3);
            edges.is("ofFish(4, 1)", x.ofFish(4, 1), 4);
            for (int f : new int[] {-1, 5, MOST, LEAST}) {
                edges.is("ofFish(" + f + ", 1)", x.ofFish(f, 1), UNKNOWN);
            }
        });
        edges.of(3, "OUTSIDE: what is 0 .. 5", unused -> {
            HeronFord x = Due.told(FIVE);
            edges.is("ofFish(2, 0)", x.ofFish(2, 0), 2);
            edges.is("ofFish(2, 5)", x.ofFish(2, 5), 3);
            for (int what : new int[] {-1, 6, MOST, LEAST}) {
                edges.is("ofFish(2, " + what + ")", x.ofFish(2, what), OUTSIDE);
            }
        });
        edges.of(3, "UNKNOWN ahead of OUTSIDE", unused -> edges.is("ofFish(5, 6)", Due.told(FIVE).ofFish(5, 6), UNKNOWN));
        edges.of(3, "SHARE: a FISH its SIZE", unused -> shares('f', 1, 2, 3, 4, 5, 6, 7, 8, 9));
        edges.of(3, "SHARE: an EEL 1 less", unused -> shares('e', 0, 1, 2, 3, 4, 5, 6, 7, 8));
        edges.of(3, "SHARE: a PIKE half of what an EEL's is, cut", unused -> shares('p', 0, 0, 1, 1, 2, 2, 3, 3, 4));
        edges.of(3, "2 SCALES: as many as it has at first now", unused -> {
            HeronFord x = Due.told(FIVE);
            x.scales(3, 99);
            edges.is("ofFish(3, 2)", x.ofFish(3, 2), 99);
            Due.passes(x, 0, 3, 0);
            edges.is("ofFish(3, 2) behind passes()", x.ofFish(3, 2), 99);
        });
        edges.of(3, "3 SONG 6, 4 SECRET 5 are of none", unused -> {
            HeronFord x = Due.told("h0;f1065");
            edges.is("ofFish(0, 3)", x.ofFish(0, 3), 6);
            edges.is("ofFish(0, 4)", x.ofFish(0, 4), 5);
        });
    }

    private static void shares(char letter, int... shares) {
        for (int size = 1; size <= 9; size++) {
            HeronFord x = Due.told("h9;" + letter + size + "000");
            edges.is("share of size " + size, x.ofFish(0, 5), shares[size - 1]);
        }
    }

    private static void dear() {
        edges.of(4, "v DEAR (0 .. 9)", unused -> {
            HeronFord x = Due.told(FIVE);
            edges.is("dear(0)", x.dear(0), 2);
            edges.is("dear(9)", x.dear(9), 0);
            for (int v : new int[] {-1, 10, MOST, LEAST}) {
                edges.is("dear(" + v + ")", x.dear(v), OUTSIDE);
                edges.is("many(1)", x.many(1), 9);
            }
            edges.is("dear(9) again", x.dear(9), 9);
        });
        edges.of(4, "OUTSIDE ahead of STATE", x -> {
            edges.is("dear(-1)", x.dear(-1), OUTSIDE);
            edges.is("dear(10)", x.dear(10), OUTSIDE);
        });
        edges.of(4, "STATE: there is no FORD", x -> {
            edges.is("dear(0)", x.dear(0), STATE);
            edges.is("dear(9)", x.dear(9), STATE);
            edges.is("many(1)", x.many(1), 0);
            Due.tell(x, "h3;f");
            edges.is("dear(9) behind a FIRST FAULT", x.dear(9), STATE);
        });
        edges.of(4, "DEAR is what upstream is, 0 and 9", unused -> {
            HeronFord x = Due.told("h5;f2965");
            x.dear(0);
            edges.is("toll", x.toll(0, 0, 0, 0, 0), 2);
            x.dear(9);
            edges.is("toll", x.toll(0, 0, 0, 0, 0), 11);
        });
    }

    private static void scales() {
        edges.of(5, "v SCALES (0 .. 99)", unused -> {
            HeronFord x = Due.told(FIVE);
            edges.is("scales(0, 0)", x.scales(0, 0), 9);
            edges.is("scales(0, 99)", x.scales(0, 99), 0);
            for (int v : new int[] {-1, 100, MOST, LEAST}) {
                edges.is("scales(0, " + v + ")", x.scales(0, v), OUTSIDE);
                edges.is("ofFish(0, 2)", x.ofFish(0, 2), 99);
            }
            edges.is("of another", x.ofFish(1, 2), 9);
        });
        edges.of(5, "UNKNOWN", unused -> {
            HeronFord x = Due.told(FIVE);
            edges.is("scales(4, 1)", x.scales(4, 1), 2);
            for (int f : new int[] {-1, 5, MOST, LEAST}) {
                edges.is("scales(" + f + ", 1)", x.scales(f, 1), UNKNOWN);
            }
        });
        edges.of(5, "UNKNOWN ahead of OUTSIDE", x -> {
            edges.is("scales(0, 100) of no FORD", x.scales(0, 100), UNKNOWN);
            edges.is("scales(5, -1)", Due.told(FIVE).scales(5, -1), UNKNOWN);
        });
        edges.of(5, "at first: PASSES begin with them", unused -> {
            HeronFord x = Due.told(FIVE);
            x.scales(0, 99);
            edges.is("behind none", Due.passes(x, 10), 99);
            edges.is("behind one", Due.passes(x, 10, 0, 0), 94);
            edges.is("behind one again", Due.passes(x, 10, 0, 0), 94);
        });
    }

    private static void hear() {
        edges.of(6, "a set (0 .. 63)", unused -> {
            HeronFord x = Due.told(FIVE);
            edges.is("hear(63)", x.hear(63), 0);
            for (int set : new int[] {-1, 64, MOST, LEAST}) {
                edges.is("hear(" + set + ")", x.hear(set), OUTSIDE);
                edges.is("many(2)", x.many(2), 63);
            }
            edges.is("hear(0)", x.hear(0), 63);
            edges.is("hear(32)", x.hear(32), 0);
        });
        edges.of(6, "just the SONGS of a set: others no more", unused -> {
            HeronFord x = Due.told(FIVE);
            x.hear(5);
            edges.is("hear(2)", x.hear(2), 5);
            edges.is("many(2)", x.many(2), 2);
        });
        edges.of(6, "OUTSIDE ahead of STATE", x -> {
            edges.is("hear(-1)", x.hear(-1), OUTSIDE);
            edges.is("hear(64)", x.hear(64), OUTSIDE);
        });
        edges.of(6, "STATE: there is no FORD", x -> {
            edges.is("hear(0)", x.hear(0), STATE);
            edges.is("hear(63)", x.hear(63), STATE);
            edges.is("many(2)", x.many(2), 0);
        });
        edges.of(6, "ahead: SONGS of PASSES do not stay", unused -> {
            HeronFord x = Due.told(FIVE);
            x.hear(32);
            edges.is("behind a song", Due.passes(x, 2, 0, 1), 33);
            edges.is("many(2)", x.many(2), 32);
            edges.is("hear(0)", x.hear(0), 32);
        });
    }
}
