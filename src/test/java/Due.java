/** Counts and prints the calls whose answer is not the one that is due; and what the tests share. */
final class Due {
    private static final int TEXT_SHEET = 0, ROW_SHEET = 1, INTS = 2;

    private int wrong = 0;
    private int calls = 0;

    void is(String call, long got, long want) {
        calls++;
        if (got != want) {
            wrong++;
            System.out.println(call + " answered " + got + ", due is " + want);
        }
    }

    void end() {
        System.out.println(wrong == 0 ? calls + " answers are as due" : wrong + " of " + calls + " answers are not as due");
        if (wrong != 0) {
            System.exit(1);
        }
    }

    /** A new object whose ford a text tells. */
    static HeronFord told(String text) {
        HeronFord x = new HeronFord();
        if (tell(x, text) < 1) {
            throw new IllegalStateException("not a text: " + text);
        }
        return x;
    }

    /** What ford() answers for a text, put as bytes on sheet 0. */
    static int tell(HeronFord x, String text) {
        fill(x, TEXT_SHEET, 0, codes(text));
        return x.ford(TEXT_SHEET, 0, 0, text.length());
    }

    static int[] codes(String text) {
        return text.chars().toArray();
    }

    static void fill(HeronFord x, int k, int lane, int... cells) {
        x.sheet(k, lane, cells.length);
        for (int i = 0; i < cells.length; i++) {
            x.put(k, i, cells[i]);
        }
    }

    /** Puts pairs (fish, how) as ints on sheet 1; answers how many pairs. */
    static int row(HeronFord x, int... pairs) {
        fill(x, ROW_SHEET, INTS, pairs);
        return pairs.length / 2;
    }

    /** passes() of a row of its own. */
    static int passes(HeronFord x, int what, int... pairs) {
        int n = row(x, pairs);
        return x.passes(ROW_SHEET, INTS, 0, n, what);
    }
}
