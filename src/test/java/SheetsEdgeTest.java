/** The boundary cases of promises 19 to 29: sheets, telling, letting, trace, fault, many. */
public final class SheetsEdgeTest {
    private static final int UNKNOWN = Edges.UNKNOWN, OUTSIDE = Edges.OUTSIDE;
    private static final int NULL = Edges.NULL, CAST = Edges.CAST, INDEX = Edges.INDEX, SIZE = Edges.SIZE;
    private static final long LOST = Edges.LOST;
    private static final int MOST = Edges.MOST, LEAST = Edges.LEAST;
    private static final String FIVE = Edges.FIVE;

    private static final Edges edges = new Edges(19, 29);

    public static void main(String[] args) {
        sheet();
        lose();
        put();
        lanes();
        cell();
        copyRefused();
        copyIndex();
        copied();
        tell();
        let();
        as();
        trace();
        fault();
        many();
        edges.end();
    }

    private static void sheet() {
        edges.of(19, "UNKNOWN: SHEETS 0 .. 3", x -> {
            for (int k = 0; k < 4; k++) {
                edges.is("sheet(" + k + ")", x.sheet(k, 0, 1), 1);
            }
            for (int k : new int[] {-1, 4, MOST, LEAST}) {
                edges.is("sheet(" + k + ")", x.sheet(k, 0, 1), UNKNOWN);
            }
        });
        edges.of(19, "OUTSIDE: lane (0 .. 2)", x -> {
            for (int lane = 0; lane < 3; lane++) {
                edges.is("lane " + lane, x.sheet(0, lane, 1), 1);
                edges.is("cell", x.cell(0, 0, lane), 0);
            }
            for (int lane : new int[] {-1, 3, MOST, LEAST}) {
                edges.is("lane " + lane, x.sheet(1, lane, 1), OUTSIDE);
            }
            edges.is("lose(1)", x.lose(1), 0);
        });
        edges.of(19, "OUTSIDE: n above 60", x -> {
            edges.is("n 60", x.sheet(0, 2, 60), 1);
            for (int n : new int[] {61, 62, MOST}) {
                edges.is("n " + n, x.sheet(0, 1, n), OUTSIDE);
                edges.is("fault()", x.fault(), 0);
            }
            edges.is("the row stays", x.cell(0, 59, 2), 0);
            edges.is("its end", x.put(0, 60, 0), INDEX);
        });
        edges.of(19, "SIZE: n below 0", x -> {
            for (int n : new int[] {-1, -60, LEAST}) {
                edges.is("n " + n, x.sheet(0, 0, n), SIZE);
                edges.is("fault()", x.fault(), 4);
            }
            edges.is("lose(0)", x.lose(0), 0);
            edges.is("n 0", x.sheet(0, 0, 0), 1);
            edges.is("fault()", x.fault(), 0);
        });
        edges.of(19, "UNKNOWN ahead of OUTSIDE ahead of SIZE", x -> {
            edges.is("all", x.sheet(4, 3, -1), UNKNOWN);
            edges.is("UNKNOWN, n", x.sheet(-1, 0, 61), UNKNOWN);
            edges.is("UNKNOWN, SIZE", x.sheet(4, 0, -1), UNKNOWN);
            edges.is("lane, SIZE", x.sheet(0, 3, -1), OUTSIDE);
            edges.is("fault()", x.fault(), 0);
        });
        edges.of(19, "a row of 0 numbers is not nothing", x -> {
            edges.is("sheet", x.sheet(0, 2, 0), 1);
            edges.is("put", x.put(0, 0, 1), INDEX);
            edges.is("cell of another LANE", x.cell(0, 0, 1), LOST);
            edges.is("fault()", x.fault(), 2);
            edges.is("lose", x.lose(0), 1);
        });
        edges.of(19, "0 at first, each of 60, where others stood, too", x -> {
            x.sheet(0, 2, 60);
            for (int i = 0; i < 60; i++) {
                x.put(0, i, -1 - i);
            }
            edges.is("sheet", x.sheet(0, 0, 60), 1);
            for (int i = 0; i < 60; i++) {
                edges.is("cell " + i, x.cell(0, i, 0), 0);
            }
            x.put(0, 59, 1);
            x.sheet(0, 0, 1);
            x.sheet(0, 0, 60);
            edges.is("cell 59, of a shorter and a longer one", x.cell(0, 59, 0), 0);
            x.put(0, 0, 1);
            x.lose(0);
            x.sheet(0, 0, 60);
            edges.is("cell 0, behind lose()", x.cell(0, 0, 0), 0);
        });
        edges.of(19, "a SHEET that is refused, or comes to a FAULT, keeps its row", x -> {
            Due.fill(x, 2, 1, 7, 8);
            x.sheet(2, 0, -1);
            x.sheet(2, 3, 1);
            x.sheet(2, 0, 61);
            edges.is("cell 0", x.cell(2, 0, 1), 7);
            edges.is("cell 1", x.cell(2, 1, 1), 8);
            edges.is("its end", x.put(2, 2, 0), INDEX);
        });
        edges.of(19, "SHEETS do not touch one another", x -> {
            for (int k = 0; k < 4; k++) {
                x.sheet(k, 2, 60);
                x.put(k, 0, k + 1);
                x.put(k, 59, -k);
            }
            for (int k = 0; k < 4; k++) {
                edges.is("the first of " + k, x.cell(k, 0, 2), k + 1);
                edges.is("the last of " + k, x.cell(k, 59, 2), -k);
            }
        });
    }

    private static void lose() {
        edges.of(20, "UNKNOWN", x -> {
            for (int k : new int[] {-1, 4, MOST, LEAST}) {
                edges.is("lose(" + k + ")", x.lose(k), UNKNOWN);
            }
        });
        edges.of(20, "1; 0: it had nothing", x -> {
            for (int k = 0; k < 4; k++) {
                edges.is("lose(" + k + ") at first", x.lose(k), 0);
                x.sheet(k, 0, 0);
                edges.is("lose(" + k + ")", x.lose(k), 1);
                edges.is("lose(" + k + ") again", x.lose(k), 0);
            }
        });
        edges.of(20, "nothing is no CAST, it is NULL", x -> {
            x.sheet(0, 1, 3);
            x.lose(0);
            for (int lane = 0; lane < 3; lane++) {
                edges.is("cell", x.cell(0, 0, lane), LOST);
                edges.is("fault()", x.fault(), 1);
            }
            edges.is("put", x.put(0, 0, 0), NULL);
        });
        edges.of(20, "of others nothing is lost", x -> {
            x.sheet(0, 1, 3);
            x.sheet(1, 1, 3);
            x.lose(0);
            edges.is("lose(1)", x.lose(1), 1);
        });
        edges.of(20, "the FORD of a TEXT stays", unused -> {
            HeronFord x = Due.told(FIVE);
            edges.is("lose(0)", x.lose(0), 1);
            edges.is("many(0)", x.many(0), 5);
        });
    }

    private static void put() {
        edges.of(21, "UNKNOWN ahead of NULL ahead of INDEX", x -> {
            for (int k : new int[] {-1, 4, MOST, LEAST}) {
                edges.is("put(" + k + ")", x.put(k, -1, 0), UNKNOWN);
                edges.is("fault()", x.fault(), 0);
            }
            edges.is("put on nothing", x.put(0, -1, 0), NULL);
            edges.is("fault()", x.fault(), 1);
            edges.is("put on nothing", x.put(3, 0, 0), NULL);
        });
        edges.of(21, "INDEX: cells are 0 .. n less 1", x -> {
            x.sheet(0, 2, 3);
            for (int i : new int[] {-1, 3, 59, 60, MOST, LEAST}) {
                edges.is("put(0, " + i + ", 1)", x.put(0, i, 1), INDEX);
                edges.is("fault()", x.fault(), 3);
            }
            for (int i = 0; i < 3; i++) {
                edges.is("cell " + i, x.cell(0, i, 2), 0);
                edges.is("put(0, " + i + ", 1)", x.put(0, i, 1), 1);
                edges.is("fault()", x.fault(), 0);
            }
        });
        edges.of(21, "cell i becomes v, no other one", x -> {
            x.sheet(0, 2, 3);
            edges.is("put", x.put(0, 1, 5), 1);
            edges.is("cell 0", x.cell(0, 0, 2), 0);
            edges.is("cell 1", x.cell(0, 1, 2), 5);
            edges.is("cell 2", x.cell(0, 2, 2), 0);
            edges.is("put again", x.put(0, 1, -5), 1);
            edges.is("cell 1", x.cell(0, 1, 2), -5);
        });
        edges.of(21, "the answer is 1, whatever v is cut to", x -> {
            x.sheet(0, 0, 1);
            for (int v : new int[] {0, -1, 256, MOST, LEAST}) {
                edges.is("put(0, 0, " + v + ")", x.put(0, 0, v), 1);
            }
        });
    }

    /** Numbers, and what each becomes in a cell of a LANE. */
    private static void cutTo(String sentence, int lane, int... numbersAndCells) {
        edges.of(21, sentence, x -> {
            x.sheet(0, lane, 1);
            for (int k = 0; k < numbersAndCells.length; k += 2) {
                x.put(0, 0, numbersAndCells[k]);
                edges.is("cell of " + numbersAndCells[k], x.cell(0, 0, lane), numbersAndCells[k + 1]);
            }
        });
    }

    private static void lanes() {
        cutTo("bytes: cut with their sign", 0, 127, 127, 128, -128, -128, -128, -129, 127, 255, -1, 256, 0, -256, 0, -255, 1,
            32768, 0, 65535, -1, MOST, -1, LEAST, 0, -1, -1);
        cutTo("shorts: cut with their sign", 1, 32767, 32767, 32768, -32768, -32768, -32768, -32769, 32767, 65535, -1, 65536, 0,
            -65536, 0, 128, 128, MOST, -1, LEAST, 0, -1, -1);
        cutTo("ints: as they are", 2, MOST, MOST, LEAST, LEAST, 0, 0, -1, -1, 32768, 32768, 128, 128);
    }

    private static void cell() {
        edges.of(22, "LOST: UNKNOWN", x -> {
            for (int k : new int[] {-1, 4, MOST, LEAST}) {
                edges.is("cell(" + k + ")", x.cell(k, 0, 0), LOST);
                edges.is("fault()", x.fault(), 0);
            }
        });
        edges.of(22, "LOST: OUTSIDE: lane, ahead of FAULTS", x -> {
            for (int lane : new int[] {-1, 3, MOST, LEAST}) {
                edges.is("nothing, lane " + lane, x.cell(0, -1, lane), LOST);
                edges.is("fault()", x.fault(), 0);
            }
        });
        edges.of(22, "nothing is no CAST, NULL ahead of INDEX", x -> {
            for (int lane = 0; lane < 3; lane++) {
                edges.is("lane " + lane, x.cell(0, -1, lane), LOST);
                edges.is("fault()", x.fault(), 1);
            }
        });
        edges.of(22, "CAST, ahead of INDEX", x -> {
            for (int own = 0; own < 3; own++) {
                Due.fill(x, 0, own, 7);
                for (int lane = 0; lane < 3; lane++) {
                    edges.is("cell", x.cell(0, 0, lane), lane == own ? 7 : LOST);
                    edges.is("fault()", x.fault(), lane == own ? 0 : 2);
                    edges.is("cell 1", x.cell(0, 1, lane), LOST);
                    edges.is("fault()", x.fault(), lane == own ? 3 : 2);
                }
            }
        });
        edges.of(22, "INDEX: cells are 0 .. n less 1", x -> {
            Due.fill(x, 0, 2, 7, 8, 9);
            for (int i : new int[] {-1, 3, 60, MOST, LEAST}) {
                edges.is("cell " + i, x.cell(0, i, 2), LOST);
                edges.is("fault()", x.fault(), 3);
            }
            edges.is("cell 0", x.cell(0, 0, 2), 7);
            edges.is("cell 2", x.cell(0, 2, 2), 9);
            edges.is("fault()", x.fault(), 0);
        });
        edges.of(22, "INDEX of a row of none, and of 60", x -> {
            x.sheet(0, 2, 0);
            edges.is("cell 0 of none", x.cell(0, 0, 2), LOST);
            edges.is("fault()", x.fault(), 3);
            x.sheet(0, 2, 60);
            edges.is("cell 59 of 60", x.cell(0, 59, 2), 0);
            edges.is("cell 60 of 60", x.cell(0, 60, 2), LOST);
        });
        edges.of(22, "numbers at the ends of int are not LOST", x -> {
            Due.fill(x, 0, 2, LEAST, MOST);
            edges.is("cell 0", x.cell(0, 0, 2), -2147483648L);
            edges.is("cell 1", x.cell(0, 1, 2), 2147483647L);
        });
    }

    private static void copyRefused() {
        edges.of(23, "UNKNOWN: the first, the other", x -> {
            x.sheet(0, 0, 1);
            for (int k : new int[] {-1, 4, MOST, LEAST}) {
                edges.is("copy of " + k, x.copy(k, 0, 0, 0, 0), UNKNOWN);
                edges.is("copy to " + k, x.copy(0, 0, k, 0, 0), UNKNOWN);
                edges.is("copy of nothing to " + k, x.copy(1, 0, k, 0, 0), UNKNOWN);
                edges.is("fault()", x.fault(), 0);
            }
            edges.is("copy", x.copy(0, 0, 0, 0, 1), 1);
        });
        edges.of(23, "NULL: the first, or the other, or both", x -> {
            x.sheet(0, 0, 1);
            edges.is("the first", x.copy(1, 0, 0, 0, 0), NULL);
            edges.is("fault()", x.fault(), 1);
            edges.is("the other", x.copy(0, 0, 1, 0, 0), NULL);
            edges.is("both", x.copy(1, 0, 2, 0, 0), NULL);
            edges.is("the same", x.copy(1, 0, 1, 0, 0), NULL);
        });
        edges.of(23, "NULL ahead of CAST and INDEX", x -> {
            x.sheet(0, 2, 1);
            edges.is("the other", x.copy(0, -1, 1, -1, -1), NULL);
            edges.is("the first", x.copy(1, -1, 0, -1, -1), NULL);
        });
        edges.of(23, "CAST (unlike LANES), ahead of INDEX", x -> {
            for (int lane = 0; lane < 3; lane++) {
                for (int other = 0; other < 3; other++) {
                    x.sheet(0, lane, 1);
                    x.sheet(1, other, 1);
                    edges.is("copy", x.copy(0, 0, 1, 0, 1), lane == other ? 1 : CAST);
                    edges.is("fault()", x.fault(), lane == other ? 0 : 2);
                    edges.is("copy of none", x.copy(0, 0, 1, 0, 0), lane == other ? 0 : CAST);
                    edges.is("copy far off", x.copy(0, -1, 1, 9, -1), lane == other ? INDEX : CAST);
                }
            }
        });
    }

    private static void copyIndex() {
        edges.of(23, "INDEX: i, j, n below 0", x -> {
            x.sheet(0, 2, 3);
            x.sheet(1, 2, 5);
            int[][] below = {{-1, 0, 1}, {0, -1, 1}, {0, 0, -1}, {-1, 0, 0}, {0, -1, 0}, {LEAST, 0, 0}, {0, LEAST, 0},
                {0, 0, LEAST}, {3, 5, -1}, {LEAST, LEAST, LEAST}, {-1, 0, 2}, {0, -1, 2}};
            for (int[] b : below) {
                edges.is("copy from " + b[0] + " to " + b[1] + ", " + b[2], x.copy(0, b[0], 1, b[1], b[2]), INDEX);
                edges.is("fault()", x.fault(), 3);
            }
        });
        edges.of(23, "INDEX: i, j, n beyond", x -> {
            x.sheet(0, 2, 3);
            x.sheet(1, 2, 5);
            int[][] beyond = {{0, 0, 4}, {1, 0, 3}, {3, 0, 1}, {4, 0, 0}, {0, 3, 3}, {0, 5, 1}, {0, 6, 0}, {MOST, 0, 0},
                {0, MOST, 0}, {0, 0, MOST}, {1, 0, MOST}, {0, 1, MOST}, {MOST, MOST, MOST}, {MOST, 0, 1}, {0, MOST, 1}};
            for (int[] b : beyond) {
                edges.is("copy from " + b[0] + " to " + b[1] + ", " + b[2], x.copy(0, b[0], 1, b[1], b[2]), INDEX);
                edges.is("fault()", x.fault(), 3);
            }
            edges.is("the other way, too many", x.copy(1, 0, 0, 0, 4), INDEX);
        });
        edges.of(23, "up to the end, and none at the end", x -> {
            x.sheet(0, 2, 3);
            x.sheet(1, 2, 5);
            edges.is("all", x.copy(0, 0, 1, 2, 3), 3);
            edges.is("the last", x.copy(0, 2, 1, 4, 1), 1);
            edges.is("none at the ends", x.copy(0, 3, 1, 5, 0), 0);
            edges.is("none at the beginning", x.copy(0, 0, 1, 0, 0), 0);
            edges.is("fault()", x.fault(), 0);
        });
        edges.of(23, "a FAULT copies no cell", x -> {
            Due.fill(x, 0, 2, 1, 2, 3);
            Due.fill(x, 1, 2, 7, 8);
            edges.is("copy", x.copy(0, 0, 1, 0, 3), INDEX);
            row(x, 1, 2, 7, 8);
            edges.is("copy", x.copy(0, 1, 1, 0, 3), INDEX);
            row(x, 1, 2, 7, 8);
        });
    }

    private static void row(HeronFord x, int k, int lane, int... cells) {
        for (int i = 0; i < cells.length; i++) {
            edges.is("cell " + i + " of " + k, x.cell(k, i, lane), cells[i]);
        }
    }

    private static void copied() {
        edges.of(23, "as they were, on the same one", x -> {
            Due.fill(x, 0, 1, 1, 2, 3, 4, 5);
            edges.is("further on", x.copy(0, 0, 0, 1, 4), 4);
            row(x, 0, 1, 1, 1, 2, 3, 4);
            edges.is("further back", x.copy(0, 1, 0, 0, 4), 4);
            row(x, 0, 1, 1, 2, 3, 4, 4);
            edges.is("on itself", x.copy(0, 0, 0, 0, 5), 5);
            row(x, 0, 1, 1, 2, 3, 4, 4);
        });
        edges.of(23, "of 60 cells all", x -> {
            x.sheet(2, 2, 60);
            x.sheet(3, 2, 60);
            for (int i = 0; i < 60; i++) {
                x.put(2, i, 1000000 + i);
            }
            edges.is("copy", x.copy(2, 0, 3, 0, 60), 60);
            for (int i = 0; i < 60; i++) {
                edges.is("cell " + i, x.cell(3, i, 2), 1000000 + i);
            }
            edges.is("one more", x.copy(2, 0, 3, 0, 61), INDEX);
        });
        edges.of(23, "no others: beside them, of the first, later ones", x -> {
            Due.fill(x, 0, 0, 1, 2, 3);
            Due.fill(x, 1, 0, 7, 8, 9);
            edges.is("copy", x.copy(0, 1, 1, 1, 1), 1);
            row(x, 1, 0, 7, 2, 9);
            row(x, 0, 0, 1, 2, 3);
            x.put(0, 1, 50);
            row(x, 1, 0, 7, 2, 9);
        });
    }

    private static int traced(int... numbers) {
        int trace = 0;
        for (int number : numbers) {
            trace = 31 * trace + number;
        }
        return trace;
    }

    private static void tell() {
        edges.of(24, "UNKNOWN leaves no number", x -> {
            edges.is("tell(0) of no FORD", x.tell(0), UNKNOWN);
            Due.tell(x, FIVE);
            for (int f : new int[] {-1, 5, MOST, LEAST}) {
                edges.is("tell(" + f + ")", x.tell(f), UNKNOWN);
            }
            edges.is("trace()", x.trace(), 0);
        });
        edges.of(24, "FISH (1): SIZE 1 and 9", x -> {
            Due.tell(x, "h0;f1000;f9000");
            edges.is("tell(0)", x.tell(0), 1);
            edges.is("tell(1)", x.tell(1), 9);
            edges.is("trace()", x.trace(), traced(1, 1));
        });
        edges.of(24, "EEL (2): what FISH's gives, and 100", x -> {
            Due.tell(x, "h0;e1000;e9000");
            edges.is("tell(0)", x.tell(0), 101);
            edges.is("trace()", x.trace(), traced(2, 1));
            edges.is("tell(1)", x.tell(1), 109);
            edges.is("trace()", x.trace(), traced(2, 1, 2, 1));
        });
        edges.of(24, "PIKE (3): what EEL's gives, and what FISH's gives (EEL's left out)", x -> {
            Due.tell(x, "h0;p1000;p9000");
            edges.is("tell(0)", x.tell(0), 102);
            edges.is("trace()", x.trace(), traced(3, 2, 1, 1));
            edges.is("tell(1)", x.tell(1), 118);
            edges.is("trace()", x.trace(), traced(3, 2, 1, 1, 3, 2, 1, 1));
        });
        edges.of(24, "SCALES, DEAR do not matter", unused -> {
            HeronFord x = Due.told(FIVE);
            x.scales(1, 99);
            x.dear(9);
            edges.is("tell(1)", x.tell(1), 105);
        });
    }

    private static void let() {
        edges.of(25, "UNKNOWN leaves no number", x -> {
            edges.is("let(0) of no FORD", x.let(0), UNKNOWN);
            Due.tell(x, FIVE);
            for (int f : new int[] {-1, 5, MOST, LEAST}) {
                edges.is("let(" + f + ")", x.let(f), UNKNOWN);
            }
            edges.is("trace()", x.trace(), 0);
        });
        edges.of(25, "by a lent body (4): its place in its list, 0 .. 4", x -> {
            Due.tell(x, "h0;f1000;e2000;f3000;e4000;f5000");
            for (int f = 0; f < 5; f++) {
                edges.is("let(" + f + ")", x.let(f), f);
            }
            edges.is("trace()", x.trace(), traced(4, 4, 4, 4, 4));
        });
        edges.of(25, "PIKES have their own (5): 90", x -> {
            Due.tell(x, "h0;p1000;p2000;p3000;p4000;p5000");
            for (int f = 0; f < 5; f++) {
                edges.is("let(" + f + ")", x.let(f), 90);
            }
            edges.is("trace()", x.trace(), traced(5, 5, 5, 5, 5));
        });
    }

    private static void as() {
        edges.of(26, "each is a FISH, too; a PIKE is an EEL", x -> {
            Due.tell(x, "h0;f1000;e1000;p1000");
            for (int f = 0; f < 3; f++) {
                for (int kind = 0; kind < 3; kind++) {
                    edges.is("as(" + f + ", " + kind + ")", x.as(f, kind), kind <= f ? 1 : CAST);
                    edges.is("fault()", x.fault(), kind <= f ? 0 : 2);
                }
            }
        });
        edges.of(26, "OUTSIDE: kinds are 0 .. 2", x -> {
            Due.tell(x, "h0;f1000");
            for (int kind : new int[] {-1, 3, MOST, LEAST}) {
                x.as(0, 2);
                edges.is("as(0, " + kind + ")", x.as(0, kind), OUTSIDE);
                edges.is("fault()", x.fault(), 0);
            }
        });
        edges.of(26, "UNKNOWN ahead of OUTSIDE", x -> {
            edges.is("as(0, 3) of no FORD", x.as(0, 3), UNKNOWN);
            Due.tell(x, "h0;p1000");
            for (int f : new int[] {-1, 1, MOST, LEAST}) {
                edges.is("as(" + f + ", 3)", x.as(f, 3), UNKNOWN);
                edges.is("as(" + f + ", 0)", x.as(f, 0), UNKNOWN);
                edges.is("fault()", x.fault(), 0);
            }
        });
        edges.of(26, "it stays what it is", x -> {
            Due.tell(x, "h0;p1000");
            x.as(0, 0);
            edges.is("ofFish(0, 0)", x.ofFish(0, 0), 2);
            edges.is("trace()", x.trace(), 0);
        });
    }

    private static void trace() {
        edges.of(27, "0 at first", x -> edges.is("trace()", x.trace(), 0));
        edges.of(27, "31 times it and the number", x -> {
            Due.tell(x, "h0;f1000;p1000");
            x.tell(0);
            edges.is("behind 1", x.trace(), 1);
            x.let(0);
            edges.is("behind 4", x.trace(), 35);
            x.let(1);
            edges.is("behind 5", x.trace(), 1090);
            edges.is("again", x.trace(), 1090);
        });
        edges.of(27, "an int that wraps", x -> {
            Due.tell(x, "h0;f1000;p1000");
            long trace = 0;
            boolean wrapped = false;
            for (int k = 0; k < 40; k++) {
                x.let(k % 2);
                trace = 31 * trace + 4 + k % 2;
                wrapped |= trace != (int) trace;
                trace = (int) trace;
                edges.is("behind " + (k + 1), x.trace(), trace);
            }
            edges.is("it wrapped", wrapped ? 1 : 0, 1);
        });
        edges.of(27, "another TEXT, lost SHEETS leave it", x -> {
            Due.tell(x, "h0;f1000");
            x.tell(0);
            Due.tell(x, FIVE);
            x.lose(0);
            edges.is("trace()", x.trace(), 1);
        });
    }

    private static void fault() {
        edges.of(28, "0 ahead of any", x -> {
            edges.is("fault()", x.fault(), 0);
            x.many(9);
            x.lose(0);
            edges.is("fault() behind calls that name none", x.fault(), 0);
        });
        edges.of(28, "of the latest call that names one", x -> {
            x.put(0, 0, 0);
            edges.is("NULL", x.fault(), 1);
            x.sheet(0, 0, -1);
            edges.is("SIZE", x.fault(), 4);
            x.sheet(0, 0, 2);
            edges.is("none", x.fault(), 0);
            x.put(0, 2, 0);
            edges.is("INDEX", x.fault(), 3);
            x.cell(0, 0, 1);
            edges.is("CAST", x.fault(), 2);
            edges.is("again", x.fault(), 2);
        });
        edges.of(28, "0: it came to none, of each call that names one", unused -> {
            for (int call = 0; call < 16; call++) {
                HeronFord x = Due.told(FIVE);
                Due.row(x, 0, 0);
                x.put(3, 0, 0);
                edges.is("ahead of call " + call, x.fault(), 1);
                namesOne(x, call, 1, 0);
                edges.is("behind call " + call, x.fault(), 0);
            }
        });
        edges.of(28, "0: it was refused, of each call that names one", unused -> {
            for (int call = 0; call < 16; call++) {
                HeronFord x = Due.told(FIVE);
                x.put(3, 0, 0);
                edges.is("ahead of call " + call, x.fault(), 1);
                namesOne(x, call, 4, 0);
                edges.is("behind call " + call, x.fault(), 0);
            }
        });
        edges.of(28, "each call that names one, by nothing: NULL", unused -> {
            for (int call = 0; call < 14; call++) {
                HeronFord x = Due.told(FIVE);
                namesOne(x, call, 3, 0);
                edges.is("behind call " + call, x.fault(), 1);
            }
        });
        edges.of(28, "refused for a FISH that there is not, too", unused -> {
            for (int call = 2; call < 8; call++) {
                HeronFord x = Due.told(FIVE);
                x.put(3, 0, 0);
                namesOne(x, call == 7 ? 15 : call, 1, 5);
                edges.is("behind call " + call, x.fault(), 0);
            }
        });
        edges.of(28, "calls that name none leave it", unused -> {
            for (int call = 0; call < 14; call++) {
                HeronFord x = Due.told(FIVE);
                x.put(3, 0, 0);
                namesNone(x, call, 0);
                edges.is("behind call " + call, x.fault(), 1);
                namesNone(x, call, 99);
                edges.is("behind call " + call + ", refused", x.fault(), 1);
            }
        });
    }

    /** A call that names a FAULT, by its number: of a SHEET of ints and a FISH. */
    private static void namesOne(HeronFord x, int call, int k, int f) {
        switch (call) {
            case 0: x.ford(k, 2, 0, 1); break;
            case 1: x.passes(k, 2, 0, 1, 0); break;
            case 2: x.owes(f, 0, k, 2, 0, 1); break;
            case 3: x.owes(0, f, k, 2, 0, 1); break;
            case 4: x.toll(f, k, 2, 0, 1); break;
            case 5: x.wants(f, k, 2, 0, 1); break;
            case 6: x.had(f, k, 2, 0, 1); break;
            case 7: x.payments(k, 2, 0, 1); break;
            case 8: x.dears(k, 2, 0, 1); break;
            case 9: x.kinds(f, k, 2, 0, 1); break;
            case 10: x.odds(k, 2, 0, 1, 0); break;
            case 11: x.put(k, 0, 0); break;
            case 12: x.cell(k, 0, 2); break;
            case 13: x.copy(k, 0, k, 1, 1); break;
            case 14: x.sheet(k, 2, 1); break;
            default: x.as(k == 4 ? 9 : f, 0);
        }
    }

    /** A call that names no FAULT, by its number. */
    private static void namesNone(HeronFord x, int call, int v) {
        switch (call) {
            case 0: x.ofFish(v, 0); break;
            case 1: x.dear(v); break;
            case 2: x.scales(v, 5); break;
            case 3: x.hear(v); break;
            case 4: x.least(15, v); break;
            case 5: x.least(v, -1); break;
            case 6: x.reading(v, 5); break;
            case 7: x.back(v); break;
            case 8: x.lose(v); break;
            case 9: x.tell(v); break;
            case 10: x.let(v); break;
            case 11: x.many(v); break;
            case 12: x.trace(); break;
            default: x.fault();
        }
    }

    private static void many() {
        edges.of(29, "0 all without a FORD", x -> {
            for (int what = 0; what < 4; what++) {
                edges.is("many(" + what + ")", x.many(what), 0);
            }
            Due.tell(x, "h9;f");
            for (int what = 0; what < 4; what++) {
                edges.is("many(" + what + ") behind a FIRST FAULT", x.many(what), 0);
            }
        });
        edges.of(29, "OUTSIDE: what is 0 .. 3", unused -> {
            for (HeronFord x : new HeronFord[] {new HeronFord(), Due.told(FIVE)}) {
                for (int what : new int[] {-1, 4, MOST, LEAST}) {
                    edges.is("many(" + what + ")", x.many(what), OUTSIDE);
                }
            }
        });
        edges.of(29, "the most of each", unused -> {
            HeronFord x = Due.told(FIVE);
            x.dear(9);
            x.hear(63);
            for (int k = 0; k < 8; k++) {
                x.reading(0, 0);
            }
            int[] most = {5, 9, 63, 8};
            for (int what = 0; what < 4; what++) {
                edges.is("many(" + what + ")", x.many(what), most[what]);
            }
        });
        edges.of(29, "the least of each with a FORD", x -> {
            Due.tell(x, "h0;f1000");
            int[] least = {1, 0, 0, 0};
            for (int what = 0; what < 4; what++) {
                edges.is("many(" + what + ")", x.many(what), least[what]);
            }
        });
    }
}
