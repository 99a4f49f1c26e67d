/** The promises of the document, one method each: ordinary inputs, the edges that it names, and wrong inputs. */
public final class PromiseTest {
    private static final int UNKNOWN = -1, OUTSIDE = -2, STATE = -3, FULL = -4, NONE = -9;
    private static final int NULL = -11, CAST = -12, INDEX = -13, SIZE = -14;
    private static final long LOST = Long.MIN_VALUE;
    private static final int MOST = Integer.MAX_VALUE, LEAST = Integer.MIN_VALUE;
    /** Tolls from below: 5, 6, 5, 4, 5; from above: 3, 4, 3, 2, 3. */
    private static final String FIVE = "h2;f3902;e5901;p7510;f2161;e4204";

    private static final Due due = new Due();

    public static void main(String[] args) {
        newObject();
        ford();
        fordFaults();
        fordMakesAllAnew();
        ofFish();
        dear();
        scales();
        hear();
        passesByScales();
        passesBySong();
        passesBySecret();
        passesOnCredit();
        passesWhat();
        passesRefused();
        owes();
        toll();
        least();
        leastFirstOfSeveral();
        payments();
        wants();
        readingAndBack();
        had();
        dears();
        kinds();
        odds();
        sheet();
        lose();
        put();
        cell();
        copy();
        tell();
        let();
        as();
        trace();
        fault();
        many();
        likePasses();
        due.end();
    }

    private static void newObject() {
        HeronFord x = new HeronFord();
        for (int what = 0; what < 4; what++) {
            due.is("new: many(" + what + ")", x.many(what), 0);
        }
        for (int k = 0; k < 4; k++) {
            due.is("new: lose(" + k + ")", x.lose(k), 0);
            due.is("new: cell", x.cell(k, 0, 0), LOST);
            due.is("new: fault", x.fault(), 1);
        }
        x = new HeronFord();
        due.is("new: fault()", x.fault(), 0);
        due.is("new: trace()", x.trace(), 0);
        due.is("new: ofFish", x.ofFish(0, 0), UNKNOWN);
    }

    private static void ford() {
        String text = "h0";
        for (int fish = 1; fish <= 5; fish++) {
            text = text + ";f1000";
            HeronFord x = new HeronFord();
            due.is("ford of " + fish, Due.tell(x, text), fish);
            due.is("many(0)", x.many(0), fish);
        }
        due.is("ford of six", Due.tell(new HeronFord(), text + ";f1000"), -132);
        due.is("ford and a code", Due.tell(new HeronFord(), text + "x"), -132);
        due.is("ford and a code", Due.tell(new HeronFord(), "h0;f1000x"), -108);
        due.is("ford of none", Due.tell(new HeronFord(), ""), -100);
        for (int n = 1; n < 14; n++) {
            if (n != 8) {
                due.is("ford that ends at " + n, Due.tell(new HeronFord(), "h9;p9965;e1000".substring(0, n)), -100 - n);
            }
        }
        firstFaults("g9;p9965", 0, "H9;p9965", 0, "h/;p9965", 1, "h:;p9965", 1, "h9:p9965", 2, "h9;g9965", 3, "h9;F9965", 3);
        firstFaults("h9;p0965", 4, "h9;p:965", 4, "h9;p9:65", 5, "h9;p9/65", 5, "h9;p9975", 6, "h9;p99/5", 6);
        firstFaults("h9;p9966", 7, "h9;p996/", 7, "h9;p9965,f1111", 8, "h9;p9965;f1113;x", 15, "x", 0, "hh", 1, "h0;f0", 4);
        fordElsewhere();
    }

    private static void firstFaults(Object... textsAndPlaces) {
        for (int k = 0; k < textsAndPlaces.length; k += 2) {
            String text = (String) textsAndPlaces[k];
            due.is("ford " + text, Due.tell(new HeronFord(), text), -100 - (Integer) textsAndPlaces[k + 1]);
        }
    }

    private static void fordElsewhere() {
        for (int lane = 0; lane < 3; lane++) {
            HeronFord x = new HeronFord();
            Due.fill(x, 3, lane, Due.codes("??h7;e4321??"));
            due.is("ford inside a sheet of lane " + lane, x.ford(3, lane, 2, 8), 1);
            due.is("many(1)", x.many(1), 7);
            due.is("ofFish size", x.ofFish(0, 1), 4);
            due.is("ford too far", x.ford(3, lane, 2, 9), -108);
            due.is("ford from ahead", x.ford(3, lane, 1, 8), -100);
        }
        HeronFord x = new HeronFord();
        Due.fill(x, 0, 2, 104 + 256, 48, 59, 102, 49, 48, 48, 48);
        due.is("ford of an int that is no code", x.ford(0, 2, 0, 8), -100);
    }

    private static void fordFaults() {
        HeronFord x = new HeronFord();
        due.is("ford of no sheet", x.ford(4, 9, 0, 0), UNKNOWN);
        due.is("ford of no sheet", x.ford(-1, 0, 0, -1), UNKNOWN);
        due.is("ford of lane 3", x.ford(0, 3, 0, 0), OUTSIDE);
        due.is("ford of lane -1", x.ford(0, -1, 0, 0), OUTSIDE);
        due.is("ford of nothing", x.ford(0, 1, -1, -1), NULL);
        due.is("fault()", x.fault(), 1);
        due.is("ford of lane 3", x.ford(0, 3, 0, 0), OUTSIDE);
        due.is("fault() of a refusal", x.fault(), 0);
        Due.fill(x, 0, 1, Due.codes("h0;f1000"));
        due.is("ford of another lane", x.ford(0, 0, -1, -1), CAST);
        due.is("fault()", x.fault(), 2);
        due.is("ford of lane 3, not that", x.ford(0, 3, -1, -1), OUTSIDE);
        due.is("ford of n -1", x.ford(0, 1, -1, -1), SIZE);
        due.is("fault()", x.fault(), 4);
        due.is("ford of i -1", x.ford(0, 1, -1, 0), INDEX);
        due.is("fault()", x.fault(), 3);
        due.is("ford of i 9", x.ford(0, 1, 9, 0), INDEX);
        due.is("ford of i 8", x.ford(0, 1, 8, 0), -100);
        due.is("fault() of a first fault", x.fault(), 0);
        due.is("ford of n 9", x.ford(0, 1, 0, 9), INDEX);
        due.is("ford of i 1, n 8", x.ford(0, 1, 1, 8), INDEX);
        due.is("ford far off", x.ford(0, 1, MOST, MOST), INDEX);
        due.is("ford far off", x.ford(0, 1, 1, MOST), INDEX);
        due.is("ford far off", x.ford(0, 1, LEAST, LEAST), SIZE);
        due.is("ford", x.ford(0, 1, 0, 8), 1);
    }

    private static void fordMakesAllAnew() {
        HeronFord x = Due.told(FIVE);
        x.hear(9);
        x.reading(0, 1);
        x.tell(0);
        due.is("a text that is wrong", Due.tell(x, "h4;x"), -103);
        due.is("many(0)", x.many(0), 5);
        due.is("many(1)", x.many(1), 2);
        due.is("many(2)", x.many(2), 9);
        due.is("many(3)", x.many(3), 1);
        due.is("ofFish", x.ofFish(4, 1), 4);
        due.is("another text", Due.tell(x, "h4;p9123"), 1);
        due.is("many(0)", x.many(0), 1);
        due.is("many(1)", x.many(1), 4);
        due.is("many(2)", x.many(2), 0);
        due.is("many(3)", x.many(3), 0);
        due.is("ofFish", x.ofFish(0, 1), 9);
        due.is("ofFish", x.ofFish(1, 1), UNKNOWN);
        due.is("trace()", x.trace(), 1);
        due.is("cell", x.cell(0, 3, 0), 'p');
    }

    private static void ofFish() {
        HeronFord x = Due.told(FIVE);
        int[][] fish = {{0, 3, 9, 0, 2, 3}, {1, 5, 9, 0, 1, 4}, {2, 7, 5, 1, 0, 3}, {0, 2, 1, 6, 1, 2}, {1, 4, 2, 0, 4, 3}};
        for (int f = 0; f < 5; f++) {
            for (int what = 0; what < 6; what++) {
                due.is("ofFish(" + f + ", " + what + ")", x.ofFish(f, what), fish[f][what]);
            }
        }
        due.is("ofFish(5, 0)", x.ofFish(5, 0), UNKNOWN);
        due.is("ofFish(-1, 9)", x.ofFish(-1, 9), UNKNOWN);
        due.is("ofFish(0, -1)", x.ofFish(0, -1), OUTSIDE);
        due.is("ofFish(0, 6)", x.ofFish(0, 6), OUTSIDE);
        x = Due.told("h0;e1000;p1000;p2000;p9000;p8000");
        int[] shares = {0, 0, 0, 4, 3};
        for (int f = 0; f < 5; f++) {
            due.is("share of " + f, x.ofFish(f, 5), shares[f]);
        }
    }

    private static void dear() {
        HeronFord x = new HeronFord();
        due.is("dear(10) of no ford", x.dear(10), OUTSIDE);
        due.is("dear(-1) of no ford", x.dear(-1), OUTSIDE);
        due.is("dear(3) of no ford", x.dear(3), STATE);
        due.is("many(1)", x.many(1), 0);
        x = Due.told(FIVE);
        due.is("dear(9)", x.dear(9), 2);
        due.is("dear(10)", x.dear(10), OUTSIDE);
        due.is("dear(0)", x.dear(0), 9);
        due.is("many(1)", x.many(1), 0);
        due.is("scales got", Due.passes(x, 0, 0, 0), 3);
        due.is("dear(-1)", x.dear(-1), OUTSIDE);
        due.is("dear(9)", x.dear(9), 0);
    }

    private static void scales() {
        HeronFord x = Due.told(FIVE);
        due.is("scales(0, 99)", x.scales(0, 99), 9);
        due.is("scales(0, 100)", x.scales(0, 100), OUTSIDE);
        due.is("scales(0, -1)", x.scales(0, -1), OUTSIDE);
        due.is("scales(5, -1)", x.scales(5, -1), UNKNOWN);
        due.is("scales(-1, 0)", x.scales(-1, 0), UNKNOWN);
        due.is("ofFish", x.ofFish(0, 2), 99);
        due.is("left", Due.passes(x, 10, 0, 0), 94);
        due.is("scales(0, 0)", x.scales(0, 0), 99);
        due.is("scales(4, 7)", x.scales(4, 7), 2);
        due.is("scales(0, 1)", x.scales(0, 1), 0);
    }

    private static void hear() {
        HeronFord x = new HeronFord();
        due.is("hear(64) of no ford", x.hear(64), OUTSIDE);
        due.is("hear(-1) of no ford", x.hear(-1), OUTSIDE);
        due.is("hear(1) of no ford", x.hear(1), STATE);
        x = Due.told(FIVE);
        due.is("hear(63)", x.hear(63), 0);
        due.is("hear(64)", x.hear(64), OUTSIDE);
        due.is("hear(-1)", x.hear(-1), OUTSIDE);
        due.is("hear(33)", x.hear(33), 63);
        due.is("many(2)", x.many(2), 33);
        due.is("a song that is known ahead", Due.passes(x, 2, 0, 1), -100);
        due.is("a song that is not", Due.passes(x, 2, 2, 1), 35);
        due.is("hear(0)", x.hear(0), 33);
    }

    private static void passesByScales() {
        HeronFord x = Due.told(FIVE);
        due.is("up", Due.passes(x, 0, 0, 0), 5);
        due.is("up and down", Due.passes(x, 0, 0, 0, 0, 0), 8);
        due.is("up and down, left", Due.passes(x, 10, 0, 0, 0, 0), 1);
        due.is("up and down, above", Due.passes(x, 4, 0, 0, 0, 0), 0);
        due.is("up, down and up", Due.passes(x, 0, 0, 0, 0, 0, 0, 0), -102);
        due.is("as many as the toll", Due.passes(x, 12, 2, 0), 0);
        due.is("one less", Due.passes(x, 1, 4, 0), 0);
        due.is("three, got", Due.passes(x, 0, 2, 0, 0, 0, 1, 0), 16);
        due.is("three, above", Due.passes(x, 4, 2, 0, 0, 0, 1, 0), 7);
        due.is("none owes", x.owes(0, 1, 1, 2, 0, 3), 0);
        x = Due.told("h0;e1065");
        due.is("a toll of none", Due.passes(x, 0, 0, 0), 0);
        due.is("a toll of none, above", Due.passes(x, 4, 0, 0), 1);
        int[] twenty = new int[40];
        due.is("twenty", Due.passes(x, 1, twenty), NONE);
        due.is("twenty, above", Due.passes(x, 4, twenty), 0);
    }

    private static void passesBySong() {
        HeronFord x = Due.told(FIVE);
        due.is("a song", Due.passes(x, 2, 0, 1), 1);
        due.is("a song, got", Due.passes(x, 0, 0, 1), 0);
        due.is("a song, left", Due.passes(x, 10, 0, 1), 9);
        due.is("a song, above", Due.passes(x, 4, 0, 1), 1);
        due.is("two songs", Due.passes(x, 2, 0, 1, 2, 1), 3);
        due.is("a song again", Due.passes(x, 1, 0, 1, 0, 1), 1);
        due.is("a song of another again", Due.passes(x, 1, 2, 1, 0, 1, 4, 1), 2);
        due.is("no song", Due.passes(x, 1, 3, 1), 0);
        due.is("known ahead stays", x.many(2), 0);
        x = Due.told("h0;f1055;f1045;f1035;f1025;f1065");
        due.is("song 5", Due.passes(x, 2, 0, 1), 32);
        due.is("all songs", Due.passes(x, 2, 3, 1, 2, 1, 1, 1, 0, 1), 60);
        x.hear(63);
        due.is("no song, all known", Due.passes(x, 1, 4, 1), 0);
    }

    private static void passesBySecret() {
        HeronFord x = Due.told(FIVE);
        due.is("a secret", Due.passes(x, 3, 0, 2), 4);
        due.is("a secret, got", Due.passes(x, 0, 0, 2), 0);
        due.is("a secret, above", Due.passes(x, 4, 0, 2), 1);
        due.is("two secrets", Due.passes(x, 3, 0, 2, 3, 2), 6);
        due.is("a secret again", Due.passes(x, 1, 0, 2, 0, 2), 1);
        due.is("its own secret", Due.passes(x, 1, 1, 2), 0);
        due.is("its own secret, the last", Due.passes(x, 1, 4, 2), 0);
        due.is("twice the toll is too much", Due.passes(x, 1, 0, 2, 2, 0), 1);
        due.is("twice the toll", Due.passes(x, 0, 2, 2, 0, 0), -101);
        x.scales(0, 10);
        due.is("twice the toll of another", Due.passes(x, 0, 2, 2, 0, 0), 10);
        due.is("the HARMED one harms", Due.passes(x, 3, 2, 2, 0, 2), 5);
        x = Due.told("h0;f1003;f1002;f1005");
        due.is("of none that there is", Due.passes(x, 1, 0, 2), 0);
        due.is("of the last", Due.passes(x, 3, 1, 2), 4);
        due.is("of none", Due.passes(x, 1, 2, 2), 0);
        x = Due.told("h0;f1005;f1000;f1000;f1000;f1005");
        due.is("told by another already", Due.passes(x, 1, 1, 2, 2, 2), 1);
        due.is("of none, of five", Due.passes(x, 1, 4, 2), 0);
    }

    private static void passesOnCredit() {
        HeronFord x = Due.told(FIVE);
        due.is("credit, got", Due.passes(x, 0, 3, 3), 4);
        due.is("credit, left of the eel", Due.passes(x, 11, 3, 3), 5);
        due.is("credit, left of itself", Due.passes(x, 13, 3, 3), 1);
        due.is("credit, above", Due.passes(x, 4, 3, 3), 8);
        due.is("not of itself", Due.passes(x, 1, 1, 3), 0);
        x.scales(4, 6);
        due.is("of the first that has as many", Due.passes(x, 14, 1, 3), 0);
        due.is("of itself it is not", Due.passes(x, 11, 1, 3), 9);
        x.scales(1, 3);
        due.is("of a pike", Due.passes(x, 12, 3, 3), 1);
        due.is("owes a pike", x.owes(3, 2, 1, 2, 0, 1), 4);
        x = Due.told("h2;f9965;f2165");
        due.is("of no eel", Due.passes(x, 1, 1, 3), 0);
        x = Due.told("h0;e1965");
        due.is("none, and no other eel", Due.passes(x, 1, 0, 3), 0);
        x = Due.told("h0;e1065;e1065");
        due.is("none, of an eel that has none", Due.passes(x, 0, 0, 3), 0);
        due.is("none, above", Due.passes(x, 4, 0, 3), 1);
        x = Due.told("h1;f2065;e9965;e9965");
        due.is("the first has none left", Due.passes(x, 12, 1, 0, 0, 3), 6);
        x.dear(0);
        due.is("none has as many left", Due.passes(x, 11, 1, 0, 2, 0, 0, 3), -102);
        due.is("the next of them", Due.passes(x, 12, 1, 0, 0, 3), 7);
    }

    private static void passesWhat() {
        HeronFord x = Due.told("h0;f1960;f2001");
        due.is("none told, got", Due.passes(x, 0), 0);
        due.is("none told, first wrong", Due.passes(x, 1), NONE);
        due.is("none told, above", Due.passes(x, 4), 0);
        due.is("none told, of fish 0", Due.passes(x, 10), 9);
        due.is("of a fish that there is not", Due.passes(x, 12, 0, 0), NONE);
        due.is("of the last that there is not", Due.passes(x, 14), NONE);
        for (int what : new int[] {0, 2, 3, 4, 10, 11, 12, 13, 14}) {
            due.is("what " + what + " of a first wrong", Due.passes(x, what, 0, 0, 1, 0), -101);
        }
        due.is("first wrong", Due.passes(x, 1, 0, 0, 1, 0), 1);
        due.is("first wrong of several", Due.passes(x, 1, 0, 0, 0, 0, 0, 1, 1, 0), 2);
        due.is("fault() of a first wrong", x.fault(), 0);
        Due.fill(x, 2, 0, 9, 9, 0, 0, 9, 9);
        due.is("inside a sheet of bytes", x.passes(2, 0, 2, 1, 0), 1);
        due.is("at the end", x.passes(2, 0, 6, 0, 0), 0);
        due.is("again: all are below at first", x.passes(2, 0, 2, 1, 10), 8);
    }

    private static void passesRefused() {
        HeronFord x = new HeronFord();
        due.is("no sheet", x.passes(4, 9, 0, 0, 0), UNKNOWN);
        due.is("no sheet", x.passes(-1, 9, 0, 0, 0), UNKNOWN);
        due.is("nothing", x.passes(2, 1, 0, 0, 0), NULL);
        due.is("fault()", x.fault(), 1);
        for (int lane : new int[] {-1, 3}) {
            due.is("lane " + lane, x.passes(2, lane, 0, 0, 0), OUTSIDE);
        }
        for (int n : new int[] {-1, 21, MOST, LEAST}) {
            due.is("n " + n, x.passes(2, 0, 0, n, 0), OUTSIDE);
        }
        for (int what : new int[] {-1, 5, 9, 15, MOST, LEAST}) {
            due.is("what " + what, x.passes(2, 0, 0, 0, what), OUTSIDE);
        }
        due.is("fault() of a refusal", x.fault(), 0);
        Due.fill(x, 2, 1, 9, 9, 0, 9);
        due.is("another lane", x.passes(2, 2, -1, 0, 0), CAST);
        due.is("fault()", x.fault(), 2);
        due.is("from -1 on", x.passes(2, 1, -1, 0, 0), INDEX);
        due.is("fault()", x.fault(), 3);
        due.is("from 5 on", x.passes(2, 1, 5, 0, 0), INDEX);
        due.is("too many", x.passes(2, 1, 3, 1, 0), INDEX);
        due.is("far off", x.passes(2, 1, MOST, 20, 0), INDEX);
        due.is("no ford", x.passes(2, 1, 0, 2, 0), STATE);
        due.is("fault() of a refusal", x.fault(), 0);
        due.is("no ford, none told", x.passes(2, 1, 4, 0, 0), STATE);
        x = Due.told(FIVE);
        due.is("no fish", Due.passes(x, 0, 5, 0), UNKNOWN);
        due.is("no fish", Due.passes(x, 0, -1, 9), UNKNOWN);
        due.is("no how", Due.passes(x, 0, 0, 4), OUTSIDE);
        due.is("no how", Due.passes(x, 0, 0, -1), OUTSIDE);
        due.is("pair by pair", Due.passes(x, 0, 0, 4, 5, 0), OUTSIDE);
        due.is("pair by pair", Due.passes(x, 0, 5, 0, 0, 4), UNKNOWN);
        due.is("ahead of any act", Due.passes(x, 1, 3, 1, 0, 0, 0, 7), OUTSIDE);
        due.is("ahead of any act", Due.passes(x, 1, 3, 1, 9, 7), UNKNOWN);
    }

    private static void owes() {
        HeronFord x = Due.told(FIVE);
        int n = Due.row(x, 3, 3, 3, 3);
        due.is("owes(3, 1)", x.owes(3, 1, 1, 2, 0, n), 6);
        due.is("owes(1, 3)", x.owes(1, 3, 1, 2, 0, n), 0);
        due.is("owes(3, 2)", x.owes(3, 2, 1, 2, 0, n), 0);
        due.is("owes(3, 3)", x.owes(3, 3, 1, 2, 0, n), 0);
        due.is("owes behind fewer", x.owes(3, 1, 1, 2, 0, 1), 4);
        due.is("owes(5, 0)", x.owes(5, 0, 1, 2, 0, n), UNKNOWN);
        due.is("owes(0, 5)", x.owes(0, 5, 1, 2, 0, n), UNKNOWN);
        due.is("owes(0, -1)", x.owes(0, -1, 1, 9, 0, n), UNKNOWN);
        n = Due.row(x, 3, 3, 3, 1);
        due.is("owes behind a first wrong", x.owes(3, 1, 1, 2, 0, n), -101);
        x = Due.told("h0;e5965;e4965");
        n = Due.row(x, 0, 3, 1, 3);
        due.is("both owe, one", x.owes(0, 1, 1, 2, 0, n), 4);
        due.is("both owe, the other", x.owes(1, 0, 1, 2, 0, n), 3);
    }

    private static void toll() {
        HeronFord x = Due.told(FIVE);
        int n = Due.row(x, 0, 2, 2, 1);
        int[] below = {5, 6, 5, 4, 5};
        for (int f = 0; f < 5; f++) {
            due.is("toll from below of " + f, x.toll(f, 1, 2, 0, 0), below[f]);
        }
        due.is("toll from above", x.toll(0, 1, 2, 0, n), 3);
        due.is("toll if HARMED, from below", x.toll(2, 1, 2, 0, 1), 10);
        due.is("toll if HARMED, from above", x.toll(2, 1, 2, 0, n), 6);
        due.is("toll(5)", x.toll(5, 1, 2, 0, n), UNKNOWN);
        due.is("toll(-1)", x.toll(-1, 7, 2, 0, n), UNKNOWN);
        n = Due.row(x, 0, 0, 0, 2, 0, 0, 0, 2);
        due.is("toll behind a first wrong", x.toll(0, 1, 2, 0, n), -102);
    }

    private static void least() {
        HeronFord x = new HeronFord();
        due.is("least of no ford", x.least(0, -2), UNKNOWN);
        due.is("least of no ford", x.least(0, -1), OUTSIDE);
        due.is("least of no ford", x.least(1, MOST), STATE);
        x = Due.told("h1;f3465;f2365");
        due.is("least by scales", x.least(1, -1), 7);
        due.is("least, 0", x.least(1, 0), 0);
        due.is("least, 1", x.least(1, 1), 10);
        due.is("least, 2", x.least(1, 2), NONE);
        due.is("least, far off", x.least(1, MOST), NONE);
        for (int ways = 2; ways < 15; ways += 2) {
            due.is("least, it can't be", x.least(ways, -1), NONE);
            due.is("least, it can't be", x.least(ways, 0), NONE);
        }
        due.is("least(16)", x.least(16, 0), OUTSIDE);
        due.is("least(0)", x.least(0, 0), OUTSIDE);
        due.is("least(-1)", x.least(-1, 0), OUTSIDE);
        due.is("least, k -2", x.least(1, -2), UNKNOWN);
        due.is("least by scales again", x.least(1, -1), 7);
        x.scales(1, 2);
        due.is("least behind scales()", x.least(1, -1), NONE);
        x.dear(0);
        due.is("least behind dear()", x.least(1, -1), 5);
        x = Due.told("h1;f3405;f2315");
        due.is("least by song", x.least(3, -1), 0);
        x.hear(1);
        due.is("least behind hear()", x.least(3, -1), 4);
        due.is("least behind hear(), 0", x.least(3, 0), 0);
        due.is("least behind hear(), 1", x.least(3, 1), 11);
        due.is("another set", x.least(1, -1), 7);
        due.is("another text", Due.tell(x, "h0;f1965"), 1);
        due.is("least of another text", x.least(1, -1), 1);
    }

    private static void leastFirstOfSeveral() {
        HeronFord x = Due.told(FIVE);
        rowOfLeast(x, 15, 5, 2, 11, 21, 32, 43);
        x = Due.told("h0;f1905;f1905");
        rowOfLeast(x, 3, 1, 0, 11);
        x = Due.told("h0;f1901;f1900");
        rowOfLeast(x, 4, 0, 2, 12);
        // the one that is HARMED must pass ahead
        x = Due.told("h0;f3065;f1960;e3565");
        rowOfLeast(x, 15, 5, 3, 12, 20);
        x = Due.told("h0;e1065;e1065");
        rowOfLeast(x, 9, 0, 0, 10);
        rowOfLeast(x, 8, 0, 3, 13);
    }

    private static void rowOfLeast(HeronFord x, int ways, int got, int... row) {
        due.is("least(" + ways + ", -1)", x.least(ways, -1), got);
        for (int k = 0; k < row.length; k++) {
            due.is("least(" + ways + ", " + k + ")", x.least(ways, k), row[k]);
        }
        due.is("least behind its row", x.least(ways, row.length), NONE);
    }

    private static void payments() {
        HeronFord x = Due.told(FIVE);
        int n = Due.row(x, 0, 3, 3, 3, 4, 3);
        due.is("payments: a pair, and three", x.payments(1, 2, 0, n), 3);
        due.is("payments: one", x.payments(1, 2, 0, 1), 1);
        due.is("payments: two to one", x.payments(1, 2, 0, 2), 2);
        due.is("payments: none", x.payments(1, 2, 0, 0), 0);
        x = Due.told("h0;e5965;e5965");
        n = Due.row(x, 0, 3, 1, 3);
        due.is("payments: they are even", x.payments(1, 2, 0, n), 0);
        n = Due.row(x, 0, 3, 1, 3, 0, 3, 1, 0);
        due.is("payments behind a first wrong", x.payments(1, 2, 0, 4), -103);
        // 0 owes 1 and 1 owes 2 as much: 0 pays 2
        x = Due.told("h0;f4065;e5465;e4465");
        n = Due.row(x, 0, 3, 1, 3);
        due.is("owes(0, 1)", x.owes(0, 1, 1, 2, 0, n), 4);
        due.is("owes(1, 2)", x.owes(1, 2, 1, 2, 0, n), 4);
        due.is("payments: a chain", x.payments(1, 2, 0, n), 1);
    }

    private static void wants() {
        HeronFord x = Due.told(FIVE);
        int n = Due.row(x, 0, 0, 0, 0, 0, 0);
        due.is("wants", x.wants(0, 1, 2, 0, n), 4);
        due.is("wants none", x.wants(0, 1, 2, 0, 2), 0);
        due.is("wants of another", x.wants(1, 1, 2, 0, n), NONE);
        due.is("wants(5)", x.wants(5, 1, 2, 0, n), UNKNOWN);
        due.is("wants(-1)", x.wants(-1, 1, 9, 0, n), UNKNOWN);
        due.is("its scales stay", x.ofFish(0, 2), 9);
        n = Due.row(x, 0, 1, 1, 1);
        due.is("wants where scales don't help", x.wants(0, 1, 2, 0, n), NONE);
        n = Due.row(x, 4, 3, 0, 3, 3, 3);
        due.is("wants of a lender", x.wants(1, 1, 2, 0, n), 0);
        x = Due.told("h9;f9065");
        n = Due.row(x, new int[16]);
        due.is("wants 99", x.wants(0, 1, 2, 0, 7), 99);
        due.is("wants more", x.wants(0, 1, 2, 0, 8), NONE);
        x.scales(0, 99);
        due.is("wants 9 more than 99", x.wants(0, 1, 2, 0, 8), 9);
        x = Due.told("h0;f2065;e3165;e9965");
        n = Due.row(x, 0, 3);
        due.is("wants none, another lends", x.wants(1, 1, 2, 0, n), 0);
        n = Due.row(x, 0, 3, 1, 0);
        due.is("wants of one that comes to lend", x.wants(1, 1, 2, 0, n), 3);
        // with 1 more it pays; with 3 more it lends them and can't
        x = Due.told("h0;f3065;e2065;e9965");
        n = Due.row(x, 0, 3, 1, 0);
        due.is("wants less than it would lend", x.wants(1, 1, 2, 0, n), 1);
    }

    private static void readingAndBack() {
        HeronFord x = new HeronFord();
        due.is("reading of no ford", x.reading(0, 100), UNKNOWN);
        due.is("back(0)", x.back(0), 0);
        due.is("back(1)", x.back(1), OUTSIDE);
        x = Due.told("h2;f3902;f1005");
        due.is("reading(2, 0)", x.reading(2, -1), UNKNOWN);
        due.is("reading(-1, 0)", x.reading(-1, 0), UNKNOWN);
        due.is("reading(0, -1)", x.reading(0, -1), OUTSIDE);
        due.is("reading(0, 100)", x.reading(0, 100), OUTSIDE);
        for (int k = 0; k < 8; k++) {
            due.is("reading " + k, x.reading(k % 2, k == 7 ? 99 : k), k);
        }
        due.is("one more", x.reading(0, 0), FULL);
        due.is("one more, outside", x.reading(0, 100), OUTSIDE);
        due.is("one more of none", x.reading(5, 0), UNKNOWN);
        due.is("many(3)", x.many(3), 8);
        due.is("back(9)", x.back(9), OUTSIDE);
        due.is("back(-1)", x.back(-1), OUTSIDE);
        due.is("back(3)", x.back(3), 5);
        due.is("back(0)", x.back(0), 5);
        due.is("reading", x.reading(0, 0), 5);
        due.is("back(6)", x.back(6), 0);
        due.is("many(3)", x.many(3), 0);
    }

    private static void had() {
        HeronFord x = Due.told("h2;f3902;f1005");
        int n = Due.row(x, 0, 0);
        due.is("had, none read", x.had(0, 1, 2, 0, n), 992);
        due.is("had, none told", x.had(0, 1, 2, 0, 0), 1023);
        x.reading(0, 2);
        due.is("had, one read", x.had(0, 1, 2, 0, n), 128);
        due.is("had, of another", x.had(1, 1, 2, 0, n), 0);
        x.scales(0, 0);
        due.is("had, as it can't be now", x.had(0, 1, 2, 0, n), 128);
        due.is("had(2)", x.had(2, 1, 2, 0, n), UNKNOWN);
        x.scales(0, 7);
        due.is("had, of another that is free", x.had(1, 1, 2, 0, n), 1023);
        x.reading(1, 4);
        due.is("had, of another that is read", x.had(1, 1, 2, 0, n), 16);
        due.is("had, and not so", x.had(0, 1, 2, 0, n), 0);
        x.back(1);
        due.is("had, taken back", x.had(0, 1, 2, 0, n), 128);
        x.reading(0, 3);
        due.is("had, unlike readings", x.had(0, 1, 2, 0, n), 0);
        due.is("scales stay", x.ofFish(0, 2), 7);
    }

    private static void dears() {
        HeronFord x = Due.told("h2;f3902;f1005");
        int n = Due.row(x, 0, 0);
        due.is("dears, none read", x.dears(1, 2, 0, n), 127);
        due.is("dears, none told", x.dears(1, 2, 0, 0), 1023);
        x.reading(0, 4);
        due.is("dears, one read", x.dears(1, 2, 0, n), 4);
        x.dear(9);
        due.is("dears, as it can't be now", x.dears(1, 2, 0, n), 4);
        due.is("it stays as dear", x.many(1), 9);
        x.reading(1, 1);
        due.is("dears, not so", x.dears(1, 2, 0, n), 0);
    }

    private static void kinds() {
        HeronFord x = Due.told("h2;f7902;f3065");
        int n = Due.row(x, 0, 0);
        due.is("kinds, none read", x.kinds(0, 1, 2, 0, n), 7);
        int[] left = {0, 1, 4};
        for (int kind = 0; kind < 3; kind++) {
            x.reading(0, left[kind]);
            due.is("kinds, kind " + kind, x.kinds(0, 1, 2, 0, n), 1 << kind);
            x.back(1);
        }
        x.reading(0, 3);
        due.is("kinds, none", x.kinds(0, 1, 2, 0, n), 0);
        x.back(1);
        n = Due.row(x, 1, 3);
        due.is("kinds of one that lends", x.kinds(0, 1, 2, 0, n), 6);
        due.is("kinds of one that can't pass", x.kinds(1, 1, 2, 0, n), 0);
        due.is("kinds(2)", x.kinds(2, 1, 2, 0, n), UNKNOWN);
        due.is("its kind stays", x.ofFish(0, 0), 0);
    }

    private static void odds() {
        HeronFord x = Due.told(FIVE);
        x.hear(63);
        x.reading(0, 50);
        share(x, 1, 1);
        share(x, 1, 2, 0, 1);
        share(x, 1, 4, 0, 1, 2, 1);
        share(x, 0, 1, 0, 1, 1, 1);
        share(x, 1, 1, 0, 0);
        share(x, 0, 1, 3, 0);
        due.is("it knows what it knew", x.many(2), 63);
        x = Due.told("h0;f1055;f1045;f1035;f1025;f1015");
        share(x, 1, 32, 0, 1, 1, 1, 2, 1, 3, 1, 4, 1);
        x = new HeronFord();
        due.is("odds of no sheet", x.odds(4, 0, 0, 0, 0), LOST);
        due.is("odds of which 2", x.odds(0, 0, 0, 0, 2), LOST);
        due.is("fault()", x.fault(), 0);
        due.is("odds of which -1", x.odds(0, 0, 0, 0, -1), LOST);
        due.is("odds of nothing", x.odds(0, 0, 0, 0, 1), LOST);
        due.is("fault()", x.fault(), 1);
    }

    private static void share(HeronFord x, int upper, int lower, int... pairs) {
        int n = Due.row(x, pairs);
        due.is("odds, upper", x.odds(1, 2, 0, n, 0), upper);
        due.is("odds, lower", x.odds(1, 2, 0, n, 1), lower);
    }

    private static void sheet() {
        HeronFord x = new HeronFord();
        due.is("sheet(4, 9, -1)", x.sheet(4, 9, -1), UNKNOWN);
        due.is("sheet(-1, 0, 0)", x.sheet(-1, 0, 0), UNKNOWN);
        due.is("sheet(0, 3, -1)", x.sheet(0, 3, -1), OUTSIDE);
        due.is("sheet(0, -1, -1)", x.sheet(0, -1, -1), OUTSIDE);
        due.is("sheet(0, 0, 61)", x.sheet(0, 0, 61), OUTSIDE);
        due.is("sheet(0, 0, MOST)", x.sheet(0, 0, MOST), OUTSIDE);
        due.is("lose(0)", x.lose(0), 0);
        due.is("sheet(0, 0, -1)", x.sheet(0, 0, -1), SIZE);
        due.is("fault()", x.fault(), 4);
        due.is("sheet(0, 0, LEAST)", x.sheet(0, 0, LEAST), SIZE);
        due.is("lose(0)", x.lose(0), 0);
        due.is("sheet(3, 2, 60)", x.sheet(3, 2, 60), 1);
        due.is("fault()", x.fault(), 0);
        for (int i = 0; i < 60; i++) {
            due.is("put", x.put(3, i, i + 1), 1);
        }
        due.is("put", x.put(3, 60, 1), INDEX);
        due.is("a fault changes nothing", x.sheet(3, 0, -1), SIZE);
        due.is("cell", x.cell(3, 59, 2), 60);
        due.is("a new row", x.sheet(3, 1, 5), 1);
        for (int i = 0; i < 5; i++) {
            due.is("a new row's cell", x.cell(3, i, 1), 0);
        }
        due.is("a new row's end", x.put(3, 5, 1), INDEX);
        due.is("a longer one", x.sheet(3, 2, 60), 1);
        due.is("a longer one's cell", x.cell(3, 59, 2), 0);
        due.is("none", x.sheet(0, 0, 0), 1);
        due.is("a cell of none", x.put(0, 0, 1), INDEX);
        due.is("a cell of none", x.cell(0, 0, 0), LOST);
        due.is("none is not nothing", x.lose(0), 1);
    }

    private static void lose() {
        HeronFord x = new HeronFord();
        x.sheet(1, 0, 3);
        due.is("lose(4)", x.lose(4), UNKNOWN);
        due.is("lose(-1)", x.lose(-1), UNKNOWN);
        due.is("lose(0)", x.lose(0), 0);
        due.is("lose(1)", x.lose(1), 1);
        due.is("lose(1)", x.lose(1), 0);
        due.is("put", x.put(1, 0, 0), NULL);
        due.is("lose names no faults", x.lose(1), 0);
        due.is("fault()", x.fault(), 1);
    }

    private static void put() {
        HeronFord x = new HeronFord();
        due.is("put(4)", x.put(4, -1, 0), UNKNOWN);
        due.is("put(-1)", x.put(-1, 0, 0), UNKNOWN);
        due.is("put on nothing", x.put(0, -1, 0), NULL);
        due.is("fault()", x.fault(), 1);
        x.sheet(0, 0, 2);
        x.sheet(1, 1, 2);
        x.sheet(2, 2, 2);
        due.is("put(0, -1)", x.put(0, -1, 0), INDEX);
        due.is("fault()", x.fault(), 3);
        due.is("put(0, 2)", x.put(0, 2, 0), INDEX);
        due.is("put(0, MOST)", x.put(0, MOST, 0), INDEX);
        due.is("put(0, LEAST)", x.put(0, LEAST, 0), INDEX);
        int[] v = {128, -129, 255, 32768, -32769, 65535, MOST, LEAST, 127, -128};
        for (int number : v) {
            for (int k = 0; k < 3; k++) {
                due.is("put", x.put(k, 1, number), 1);
            }
            due.is("a byte of " + number, x.cell(0, 1, 0), (byte) number);
            due.is("a short of " + number, x.cell(1, 1, 1), (short) number);
            due.is("an int of " + number, x.cell(2, 1, 2), number);
        }
        due.is("beside it", x.cell(0, 0, 0), 0);
        due.is("fault()", x.fault(), 0);
    }

    private static void cell() {
        HeronFord x = new HeronFord();
        due.is("cell of no sheet", x.cell(4, 0, 0), LOST);
        due.is("fault()", x.fault(), 0);
        due.is("cell of nothing", x.cell(0, 0, 2), LOST);
        due.is("fault()", x.fault(), 1);
        due.is("cell of lane 3", x.cell(0, 0, 3), LOST);
        due.is("fault()", x.fault(), 0);
        due.is("cell of lane -1", x.cell(0, 0, -1), LOST);
        x.sheet(0, 1, 3);
        x.put(0, 2, -7);
        due.is("cell", x.cell(0, 2, 1), -7);
        due.is("cell of another lane", x.cell(0, 9, 0), LOST);
        due.is("fault()", x.fault(), 2);
        for (int i : new int[] {-1, 3, MOST, LEAST}) {
            due.is("cell " + i, x.cell(0, i, 1), LOST);
            due.is("fault()", x.fault(), 3);
        }
        due.is("cell of no sheet", x.cell(-1, 0, 0), LOST);
        due.is("fault()", x.fault(), 0);
    }

    private static void copy() {
        HeronFord x = new HeronFord();
        due.is("copy of no sheet", x.copy(4, 0, 0, 0, 0), UNKNOWN);
        due.is("copy to no sheet", x.copy(0, 0, -1, 0, 0), UNKNOWN);
        due.is("copy of nothing", x.copy(0, 0, 1, 0, 0), NULL);
        Due.fill(x, 0, 0, 1, 2, 3, 4, 5);
        due.is("copy to nothing", x.copy(0, -1, 1, 0, 0), NULL);
        due.is("fault()", x.fault(), 1);
        due.is("copy of nothing", x.copy(1, 0, 0, 0, 0), NULL);
        Due.fill(x, 1, 1, 9, 9, 9);
        due.is("copy to another lane", x.copy(0, -1, 1, 0, 0), CAST);
        due.is("fault()", x.fault(), 2);
        Due.fill(x, 1, 0, 9, 9, 9);
        int[][] beyond = {{-1, 0, 0}, {0, -1, 0}, {0, 0, -1}, {6, 0, 0}, {0, 4, 0}, {3, 0, 3}, {0, 1, 3}, {0, 0, MOST},
            {MOST, 0, 1}, {0, MOST, 1}, {LEAST, LEAST, LEAST}, {0, 0, 4}};
        for (int[] b : beyond) {
            due.is("copy beyond", x.copy(0, b[0], 1, b[1], b[2]), INDEX);
            due.is("fault()", x.fault(), 3);
        }
        row(x, 1, 9, 9, 9);
        due.is("copy none", x.copy(0, 5, 1, 3, 0), 0);
        due.is("fault()", x.fault(), 0);
        due.is("copy", x.copy(0, 3, 1, 1, 2), 2);
        row(x, 1, 9, 4, 5);
        due.is("copy on itself, on", x.copy(0, 0, 0, 1, 4), 4);
        row(x, 0, 1, 1, 2, 3, 4);
        due.is("copy on itself, back", x.copy(0, 1, 0, 0, 4), 4);
        row(x, 0, 1, 2, 3, 4, 4);
    }

    private static void row(HeronFord x, int k, int... cells) {
        for (int i = 0; i < cells.length; i++) {
            due.is("cell " + i + " of sheet " + k, x.cell(k, i, 0), cells[i]);
        }
    }

    private static void tell() {
        HeronFord x = Due.told(FIVE);
        due.is("tell(0)", x.tell(0), 3);
        due.is("trace()", x.trace(), 1);
        due.is("tell(1)", x.tell(1), 105);
        due.is("trace()", x.trace(), (31 + 2) * 31 + 1);
        due.is("tell(2)", x.tell(2), 114);
        due.is("trace()", x.trace(), traced(1, 2, 1, 3, 2, 1, 1));
        due.is("tell(5)", x.tell(5), UNKNOWN);
        due.is("tell(-1)", x.tell(-1), UNKNOWN);
        due.is("trace()", x.trace(), traced(1, 2, 1, 3, 2, 1, 1));
    }

    private static int traced(int... numbers) {
        int trace = 0;
        for (int number : numbers) {
            trace = 31 * trace + number;
        }
        return trace;
    }

    private static void let() {
        HeronFord x = Due.told(FIVE);
        due.is("let(4)", x.let(4), 4);
        due.is("let(0)", x.let(0), 0);
        due.is("trace()", x.trace(), traced(4, 4));
        due.is("let(2)", x.let(2), 90);
        due.is("trace()", x.trace(), traced(4, 4, 5));
        due.is("let(3)", x.let(3), 3);
        due.is("let(5)", x.let(5), UNKNOWN);
        due.is("let(-1)", x.let(-1), UNKNOWN);
        due.is("trace()", x.trace(), traced(4, 4, 5, 4));
    }

    private static void as() {
        HeronFord x = new HeronFord();
        due.is("as of no ford", x.as(0, 9), UNKNOWN);
        x = Due.told(FIVE);
        int[] fish = {0, 1, 2};
        for (int f : fish) {
            for (int kind = 0; kind < 3; kind++) {
                due.is("as(" + f + ", " + kind + ")", x.as(f, kind), kind <= f ? 1 : CAST);
                due.is("fault()", x.fault(), kind <= f ? 0 : 2);
            }
        }
        due.is("as(0, 2)", x.as(0, 2), CAST);
        due.is("as(0, 3)", x.as(0, 3), OUTSIDE);
        due.is("fault()", x.fault(), 0);
        due.is("as(0, -1)", x.as(0, -1), OUTSIDE);
        due.is("as(0, 2)", x.as(0, 2), CAST);
        due.is("as(5, 0)", x.as(5, 0), UNKNOWN);
        due.is("fault()", x.fault(), 0);
        due.is("trace()", x.trace(), 0);
    }

    private static void trace() {
        HeronFord x = Due.told(FIVE);
        int trace = 0;
        for (int k = 0; k < 20; k++) {
            x.tell(2);
            trace = (((31 * trace + 3) * 31 + 2) * 31 + 1) * 31 + 1;
            due.is("trace() wraps", x.trace(), trace);
        }
        Due.tell(x, "h0;f1000");
        due.is("trace() behind another text", x.trace(), trace);
    }

    private static void fault() {
        HeronFord x = Due.told(FIVE);
        x.lose(2);
        due.is("a fault", x.put(2, 0, 0), NULL);
        x.ofFish(9, 9);
        x.dear(99);
        x.scales(0, 5);
        x.hear(0);
        x.least(15, -1);
        x.reading(9, 9);
        x.reading(0, 1);
        x.back(1);
        x.lose(3);
        x.tell(0);
        x.let(0);
        x.trace();
        x.fault();
        x.many(0);
        due.is("fault() behind calls that name none", x.fault(), 1);
        x.as(0, 0);
        due.is("fault() behind one that names one", x.fault(), 0);
    }

    private static void many() {
        HeronFord x = Due.told(FIVE);
        x.hear(6);
        x.reading(1, 1);
        x.reading(1, 2);
        due.is("many(0)", x.many(0), 5);
        due.is("many(1)", x.many(1), 2);
        due.is("many(2)", x.many(2), 6);
        due.is("many(3)", x.many(3), 2);
        due.is("many(4)", x.many(4), OUTSIDE);
        due.is("many(-1)", x.many(-1), OUTSIDE);
    }

    /** What a call that goes as passes() answers: by its number below. */
    private static long like(HeronFord x, int call, int f, int sheet, int lane, int i, int n) {
        switch (call) {
            case 0: return x.passes(sheet, lane, i, n, 0);
            case 1: return x.payments(sheet, lane, i, n);
            case 2: return x.dears(sheet, lane, i, n);
            case 3: return x.odds(sheet, lane, i, n, 0);
            case 4: return x.owes(f, 0, sheet, lane, i, n);
            case 5: return x.owes(0, f, sheet, lane, i, n);
            case 6: return x.toll(f, sheet, lane, i, n);
            case 7: return x.wants(f, sheet, lane, i, n);
            case 8: return x.had(f, sheet, lane, i, n);
            default: return x.kinds(f, sheet, lane, i, n);
        }
    }

    private static void likePasses() {
        for (int call = 0; call < 10; call++) {
            HeronFord x = Due.told(FIVE);
            alike(x, call, UNKNOWN, 0, 4, 9, 0, 0);
            alike(x, call, OUTSIDE, 0, 2, 3, 0, 0);
            alike(x, call, OUTSIDE, 0, 2, 0, 0, -1);
            alike(x, call, OUTSIDE, 0, 2, 0, 0, 21);
            alike(x, call, NULL, 0, 2, 0, 0, 0);
            Due.fill(x, 2, 1, 0, 0, 5, 0, 0, 4);
            alike(x, call, CAST, 0, 2, 0, -1, 0);
            alike(x, call, INDEX, 0, 2, 1, -1, 0);
            alike(x, call, INDEX, 0, 2, 1, 7, 0);
            alike(x, call, INDEX, 0, 2, 1, 5, 1);
            alike(x, call, UNKNOWN, 0, 2, 1, 0, 3);
            alike(x, call, OUTSIDE, 0, 2, 1, 4, 1);
            if (call >= 4) {
                alike(x, call, CAST, 0, 2, 0, 0, 0);
                alike(x, call, UNKNOWN, 5, 2, 0, 0, 0);
                alike(x, call, UNKNOWN, -1, 2, 0, 0, 0);
            } else {
                HeronFord none = new HeronFord();
                none.sheet(2, 1, 2);
                alike(none, call, STATE, 0, 2, 1, 0, 1);
                alike(none, call, INDEX, 0, 2, 1, 1, 1);
            }
        }
    }

    private static void alike(HeronFord x, int call, int answer, int f, int sheet, int lane, int... iAndN) {
        long want = call == 3 ? LOST : answer;
        due.is("like passes, call " + call, like(x, call, f, sheet, lane, iAndN[0], iAndN[1]), want);
        due.is("fault() of call " + call, x.fault(), answer <= NULL ? -10 - answer : 0);
    }
}
