/** Runs edges: each is a test of its own, on new objects, of one boundary case that a sentence of the document names. */
final class Edges {
    /** What an edge does with a new object; it tells each answer to is(). */
    interface Edge {
        void test(HeronFord x);
    }

    static final int UNKNOWN = -1, OUTSIDE = -2, STATE = -3, FULL = -4, NONE = -9;
    static final int NULL = -11, CAST = -12, INDEX = -13, SIZE = -14;
    static final long LOST = Long.MIN_VALUE;
    static final int MOST = Integer.MAX_VALUE, LEAST = Integer.MIN_VALUE;
    /** Tolls from below: 5, 6, 5, 4, 5; from above: 3, 4, 3, 2, 3. */
    static final String FIVE = "h2;f3902;e5901;p7510;f2161;e4204";

    private final int first;
    private final int last;
    private final int[] edgesOf = new int[30];
    private final StringBuilder wrongs = new StringBuilder();
    private String name = "";
    private int answers = 0;
    private int edges = 0;
    private int failed = 0;

    /** Edges of the promises from first to last, of which none may be without. */
    Edges(int first, int last) {
        this.first = first;
        this.last = last;
    }

    void of(int promise, String sentence, Edge edge) {
        name = "Promise " + promise + ", " + sentence + ": ";
        int answersAhead = answers;
        int lengthAhead = wrongs.length();
        try {
            edge.test(new HeronFord());
        } catch (RuntimeException e) {
            wrong("threw " + e);
        }
        if (answers == answersAhead) {
            wrong("asked nothing");
        }
        edges++;
        edgesOf[promise]++;
        failed += wrongs.length() > lengthAhead ? 1 : 0;
    }

    void is(String call, long got, long want) {
        answers++;
        if (got != want) {
            wrong(call + " answered " + got + ", due is " + want);
        }
    }

    void same(String what, String got, String want) {
        answers++;
        if (!got.equals(want)) {
            wrong(what + " was " + want + ", is " + got);
        }
    }

    private void wrong(String what) {
        wrongs.append(name).append(what).append('\n');
    }

    void end() {
        name = "";
        for (int promise = first; promise <= last; promise++) {
            if (edgesOf[promise] == 0) {
                wrong("Promise " + promise + " has no edge");
            }
        }
        System.out.print(wrongs);
        System.out.println(edges + " edges, " + failed + " of them broken, " + answers + " answers");
        if (wrongs.length() > 0) {
            System.exit(1);
        }
    }
}
