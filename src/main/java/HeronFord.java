import java.util.Arrays;

/**
 * A ford where each fish pays the heron: by scales, by a new song, by a secret, or on credit of an eel.
 * The document ../shared/DOC.md tells what each call answers; its words in capitals are told there.
 */
public final class HeronFord {
    public static final int UNKNOWN = -1, OUTSIDE = -2, STATE = -3, FULL = -4, NONE = -9;
    public static final long LOST = Long.MIN_VALUE;

    private static final int NULL = 1, CAST = 2, INDEX = 3, SIZE = 4;
    private static final int FAULT_ANSWER = -10, WRONG_ANSWER = -100;

    private static final int SHEETS = 4, MOST_CELLS = 60;
    private static final int BYTES = 0, SHORTS = 1, INTS = 2;

    private static final int FISH = 0, EEL = 1, PIKE = 2;
    private static final int MOST_FISH = 5, SONGS = 6, MOST_DIGIT = 9;
    private static final int HEAD_CODES = 2, FISH_CODES = 6;

    private static final int BY_SCALES = 0, BY_SONG = 1, BY_SECRET = 2, ON_CREDIT = 3;
    private static final int MOST_PASSES = 20, MOST_WAYS = 15;
    private static final int MOST_SCALES = 99, MOST_READINGS = 8;
    private static final int SCALES_OF_FIRST = 10;

    /** Who gave scales for a pass, if it was none of the fish; or that the pass can't be. */
    private static final int NOBODY = -1, CANNOT = -2;
    /** More scales than all fish together ever have. */
    private static final int BEYOND = 1000000;

    private final Sheet[] sheets;
    private final Told told;
    private final Crossing crossing;
    private final Search search;
    private final Readings readings;
    private int trace;
    private int fault;

    public HeronFord() {
        sheets = new Sheet[SHEETS];
        for (int k = 0; k < SHEETS; k++) {
            sheets[k] = new Sheet();
        }
        told = new Told();
        crossing = new Crossing();
        search = new Search();
        readings = new Readings();
        trace = 0;
        fault = 0;
    }

    // ---- 1 the ford

    public int ford(int sheet, int lane, int i, int n) {
        fault = 0;
        if (!isSheet(sheet)) {
            return UNKNOWN;
        }
        if (!isLane(lane)) {
            return OUTSIDE;
        }
        Sheet text = sheets[sheet];
        int found = text.faultAt(lane, i, n);
        if (found != 0) {
            return faulty(found);
        }
        int wrong = firstFault(text, i, n);
        if (wrong != NONE) {
            return WRONG_ANSWER - wrong;
        }
        told.take(text, i, n);
        readings.count = 0;
        search.forget();
        return told.count;
    }

    public int ofFish(int f, int what) {
        if (!told.has(f)) {
            return UNKNOWN;
        }
        Fish fish = told.fish[f];
        switch (what) {
            case 0: return fish.kind;
            case 1: return fish.size;
            case 2: return fish.scales;
            case 3: return fish.song;
            case 4: return fish.secret;
            case 5: return shareOf(fish.kind, fish.size);
            default: return OUTSIDE;
        }
    }

    public int dear(int v) {
        if (!isWithin(v, 0, MOST_DIGIT)) {
            return OUTSIDE;
        }
        if (told.count == 0) {
            return STATE;
        }
        int was = told.dear;
        told.dear = v;
        search.forget();
        return was;
    }

    public int scales(int f, int v) {
        if (!told.has(f)) {
            return UNKNOWN;
        }
        if (!isWithin(v, 0, MOST_SCALES)) {
            return OUTSIDE;
        }
        int had = told.fish[f].scales;
        told.fish[f].scales = v;
        search.forget();
        return had;
    }

    public int hear(int set) {
        if (!isWithin(set, 0, (1 << SONGS) - 1)) {
            return OUTSIDE;
        }
        if (told.count == 0) {
            return STATE;
        }
        int knew = told.known;
        told.known = set;
        search.forget();
        return knew;
    }

    // ---- 2 passes

    public int passes(int sheet, int lane, int i, int n, int what) {
        boolean whatAsTold = isWithin(what, 0, 4) || isWithin(what, SCALES_OF_FIRST, SCALES_OF_FIRST + MOST_FISH - 1);
        int refusal = refusalOf(sheet, lane, i, n, whatAsTold);
        if (refusal != 0) {
            return refusal;
        }
        int wrong = walkAsTold(sheet, i, n);
        if (what == 1) {
            return wrong;
        }
        if (wrong != NONE) {
            return WRONG_ANSWER - wrong;
        }
        switch (what) {
            case 0: return crossing.got;
            case 2: return crossing.known;
            case 3: return crossing.harmed;
            case 4: return crossing.above;
            default: return told.has(what - SCALES_OF_FIRST) ? crossing.scales[what - SCALES_OF_FIRST] : NONE;
        }
    }

    public int owes(int f, int other, int sheet, int lane, int i, int n) {
        int refusal = told.has(other) ? refusalWithFish(f, sheet, lane, i, n) : unknownFish();
        if (refusal != 0) {
            return refusal;
        }
        int wrong = walkAsTold(sheet, i, n);
        return wrong != NONE ? WRONG_ANSWER - wrong : crossing.owed[f][other];
    }

    public int toll(int f, int sheet, int lane, int i, int n) {
        int refusal = refusalWithFish(f, sheet, lane, i, n);
        if (refusal != 0) {
            return refusal;
        }
        int wrong = walkAsTold(sheet, i, n);
        return wrong != NONE ? WRONG_ANSWER - wrong : crossing.tollOf(f);
    }

    // ---- 3 the least, payments

    public int least(int ways, int k) {
        if (k < -1) {
            return UNKNOWN;
        }
        if (!isWithin(ways, 1, MOST_WAYS)) {
            return OUTSIDE;
        }
        if (told.count == 0) {
            return STATE;
        }
        search.find(told, ways);
        if (search.best >= BEYOND || k >= told.count) {
            return NONE;
        }
        return k < 0 ? search.best : search.bestRow[k];
    }

    public int payments(int sheet, int lane, int i, int n) {
        int refusal = refusalOf(sheet, lane, i, n, true);
        if (refusal != 0) {
            return refusal;
        }
        int wrong = walkAsTold(sheet, i, n);
        return wrong != NONE ? WRONG_ANSWER - wrong : crossing.fewestPayments();
    }

    public int wants(int f, int sheet, int lane, int i, int n) {
        int refusal = refusalWithFish(f, sheet, lane, i, n);
        if (refusal != 0) {
            return refusal;
        }
        // each number is tried: with more scales another eel may lend, so that fewer could do where more don't
        for (int more = 0; more <= MOST_SCALES; more++) {
            crossing.start(told);
            crossing.scales[f] += more;
            if (crossing.walk(sheets[sheet], i, n) == NONE) {
                return more;
            }
        }
        return NONE;
    }

    // ---- 4 what was left

    public int reading(int f, int v) {
        if (!told.has(f)) {
            return UNKNOWN;
        }
        if (!isWithin(v, 0, MOST_SCALES)) {
            return OUTSIDE;
        }
        return readings.add(f, v);
    }

    public int back(int k) {
        if (!isWithin(k, 0, readings.count)) {
            return OUTSIDE;
        }
        readings.count -= k;
        return readings.count;
    }

    public int had(int f, int sheet, int lane, int i, int n) {
        int refusal = refusalWithFish(f, sheet, lane, i, n);
        if (refusal != 0) {
            return refusal;
        }
        int set = 0;
        for (int v = 0; v <= MOST_DIGIT; v++) {
            crossing.start(told);
            crossing.scales[f] = v;
            set |= bitIf(fits(sheet, i, n), v);
        }
        return set;
    }

    public int dears(int sheet, int lane, int i, int n) {
        int refusal = refusalOf(sheet, lane, i, n, true);
        if (refusal != 0) {
            return refusal;
        }
        int set = 0;
        for (int v = 0; v <= MOST_DIGIT; v++) {
            crossing.start(told);
            crossing.dear = v;
            set |= bitIf(fits(sheet, i, n), v);
        }
        return set;
    }

    public int kinds(int f, int sheet, int lane, int i, int n) {
        int refusal = refusalWithFish(f, sheet, lane, i, n);
        if (refusal != 0) {
            return refusal;
        }
        int set = 0;
        for (int kind = FISH; kind <= PIKE; kind++) {
            crossing.start(told);
            crossing.kind[f] = kind;
            set |= bitIf(fits(sheet, i, n), kind);
        }
        return set;
    }

    public long odds(int sheet, int lane, int i, int n, int which) {
        if (refusalOf(sheet, lane, i, n, isWithin(which, 0, 1)) != 0) {
            return LOST;
        }
        int upper = 0;
        int lower = 1 << SONGS;
        for (int set = 0; set < 1 << SONGS; set++) {
            crossing.start(told);
            crossing.known = set;
            if (crossing.walk(sheets[sheet], i, n) == NONE) {
                upper++;
            }
        }
        // the lower number is a power of two: halving is all that can shorten the share
        for (int halvings = 0; halvings < SONGS && upper % 2 == 0; halvings++) {
            upper /= 2;
            lower /= 2;
        }
        return which == 0 ? upper : lower;
    }

    // ---- 5 sheets, parts

    public int sheet(int k, int lane, int n) {
        fault = 0;
        if (!isSheet(k)) {
            return UNKNOWN;
        }
        if (!isLane(lane) || n > MOST_CELLS) {
            return OUTSIDE;
        }
        if (n < 0) {
            return faulty(SIZE);
        }
        sheets[k].begin(lane, n);
        return 1;
    }

    public int lose(int k) {
        if (!isSheet(k)) {
            return UNKNOWN;
        }
        int had = sheets[k].hasRow ? 1 : 0;
        sheets[k].hasRow = false;
        return had;
    }

    public int put(int k, int i, int v) {
        fault = 0;
        if (!isSheet(k)) {
            return UNKNOWN;
        }
        if (!sheets[k].hasRow) {
            return faulty(NULL);
        }
        if (!sheets[k].holds(i, 1)) {
            return faulty(INDEX);
        }
        sheets[k].set(i, v);
        return 1;
    }

    public long cell(int k, int i, int lane) {
        fault = 0;
        if (!isSheet(k) || !isLane(lane)) {
            return LOST;
        }
        fault = sheets[k].faultAt(lane, i, 1);
        return fault != 0 ? LOST : sheets[k].at(i);
    }

    public int copy(int k, int i, int other, int j, int n) {
        fault = 0;
        if (!isSheet(k) || !isSheet(other)) {
            return UNKNOWN;
        }
        Sheet from = sheets[k];
        Sheet to = sheets[other];
        if (!from.hasRow || !to.hasRow) {
            return faulty(NULL);
        }
        if (from.lane != to.lane) {
            return faulty(CAST);
        }
        if (!from.holds(i, n) || !to.holds(j, n)) {
            return faulty(INDEX);
        }
        System.arraycopy(from.cells, i, to.cells, j, n);
        return n;
    }

    public int tell(int f) {
        if (!told.has(f)) {
            return UNKNOWN;
        }
        Fish fish = told.fish[f];
        switch (fish.kind) {
            case PIKE: return pikesTelling(fish);
            case EEL: return eelsTelling(fish);
            default: return fishsTelling(fish);
        }
    }

    public int let(int f) {
        if (!told.has(f)) {
            return UNKNOWN;
        }
        if (told.fish[f].kind == PIKE) {
            leaveTrace(5);
            return 90;
        }
        leaveTrace(4);
        return f;
    }

    public int as(int f, int kind) {
        fault = 0;
        if (!told.has(f)) {
            return UNKNOWN;
        }
        if (!isWithin(kind, FISH, PIKE)) {
            return OUTSIDE;
        }
        // the kinds stand in a line, each one of the kind ahead of it, too
        return told.fish[f].kind >= kind ? 1 : faulty(CAST);
    }

    public int trace() {
        return trace;
    }

    public int fault() {
        return fault;
    }

    public int many(int what) {
        switch (what) {
            case 0: return told.count;
            case 1: return told.dear;
            case 2: return told.known;
            case 3: return readings.count;
            default: return OUTSIDE;
        }
    }

    // ---- what the calls share

    private static boolean isWithin(int v, int from, int to) {
        return v >= from && v <= to;
    }

    private static boolean isSheet(int k) {
        return isWithin(k, 0, SHEETS - 1);
    }

    private static boolean isLane(int lane) {
        return isWithin(lane, BYTES, INTS);
    }

    private static boolean mayBe(int ways, int how) {
        return (ways >> how & 1) == 1;
    }

    private static int bitIf(boolean so, int bit) {
        return so ? 1 << bit : 0;
    }

    private static int shareOf(int kind, int size) {
        switch (kind) {
            case PIKE: return (size - 1) / 2;
            case EEL: return size - 1;
            default: return size;
        }
    }

    private int faulty(int found) {
        fault = found;
        return FAULT_ANSWER - found;
    }

    /** The answer of a call that names FAULTS and is refused for its FISH. */
    private int unknownFish() {
        fault = 0;
        return UNKNOWN;
    }

    private int refusalWithFish(int f, int sheet, int lane, int i, int n) {
        return told.has(f) ? refusalOf(sheet, lane, i, n, true) : unknownFish();
    }

    /** What a call answers for passes that it refuses, or by a fault of theirs; 0: it takes them. */
    private int refusalOf(int sheet, int lane, int i, int n, boolean restAsTold) {
        fault = 0;
        if (!isSheet(sheet)) {
            return UNKNOWN;
        }
        if (!isLane(lane) || !isWithin(n, 0, MOST_PASSES) || !restAsTold) {
            return OUTSIDE;
        }
        int found = sheets[sheet].faultAt(lane, i, 2 * n);
        if (found != 0) {
            return faulty(found);
        }
        if (told.count == 0) {
            return STATE;
        }
        for (int pair = 0; pair < n; pair++) {
            if (!told.has(sheets[sheet].at(i + 2 * pair))) {
                return UNKNOWN;
            }
            if (!isWithin(sheets[sheet].at(i + 2 * pair + 1), BY_SCALES, ON_CREDIT)) {
                return OUTSIDE;
            }
        }
        return 0;
    }

    /** The first wrong of passes by the ford as it is told; NONE: they can be. */
    private int walkAsTold(int sheet, int i, int n) {
        crossing.start(told);
        return crossing.walk(sheets[sheet], i, n);
    }

    /** Whether passes, from what the crossing starts with, can be and leave what was read. */
    private boolean fits(int sheet, int i, int n) {
        return crossing.walk(sheets[sheet], i, n) == NONE && readings.areSo(crossing);
    }

    private void leaveTrace(int number) {
        trace = 31 * trace + number;
    }

    private int fishsTelling(Fish fish) {
        leaveTrace(1);
        return fish.size;
    }

    private int eelsTelling(Fish fish) {
        leaveTrace(2);
        return fishsTelling(fish) + 100;
    }

    private int pikesTelling(Fish fish) {
        leaveTrace(3);
        int byEel = eelsTelling(fish);
        return byEel + fishsTelling(fish);
    }

    // ---- the text of a ford

    /** The place of the first code with which no text goes on, n if it ends too soon; NONE: it is a text. */
    private static int firstFault(Sheet text, int i, int n) {
        for (int place = 0; place < n; place++) {
            if (!goesOn(place, text.at(i + place))) {
                return place;
            }
        }
        boolean whole = n >= HEAD_CODES + FISH_CODES && (n - HEAD_CODES) % FISH_CODES == 0;
        return whole ? NONE : n;
    }

    private static boolean goesOn(int place, int code) {
        if (place < HEAD_CODES) {
            return place == 0 ? code == 'h' : isDigit(code, 0, 9);
        }
        if (place >= HEAD_CODES + MOST_FISH * FISH_CODES) {
            return false;
        }
        switch ((place - HEAD_CODES) % FISH_CODES) {
            case 0: return code == ';';
            case 1: return code == 'f' || code == 'e' || code == 'p';
            case 2: return isDigit(code, 1, 9);
            case 3: return isDigit(code, 0, 9);
            case 4: return isDigit(code, 0, 6);
            default: return isDigit(code, 0, 5);
        }
    }

    private static boolean isDigit(int code, int from, int to) {
        return isWithin(code, '0' + from, '0' + to);
    }

    private static int kindOf(int letter) {
        if (letter == 'p') {
            return PIKE;
        }
        return letter == 'e' ? EEL : FISH;
    }

    /** A row of numbers of a lane, or nothing; its cells are made once and used again by each new row. */
    private static final class Sheet {
        final int[] cells;
        boolean hasRow;
        int lane;
        int length;

        Sheet() {
            cells = new int[MOST_CELLS];
            hasRow = false;
            lane = BYTES;
            length = 0;
        }

        void begin(int newLane, int n) {
            Arrays.fill(cells, 0);
            hasRow = true;
            lane = newLane;
            length = Math.min(Math.max(n, 0), MOST_CELLS);
        }

        boolean holds(int i, int n) {
            return i >= 0 && n >= 0 && i <= length - n;
        }

        /** The first fault that n cells from i on, taken as a row of a lane, come to; 0: none. */
        int faultAt(int asLane, int i, int n) {
            if (!hasRow) {
                return NULL;
            }
            if (lane != asLane) {
                return CAST;
            }
            if (n < 0) {
                return SIZE;
            }
            return holds(i, n) ? 0 : INDEX;
        }

        int at(int i) {
            return holds(i, 1) ? cells[i] : 0;
        }

        void set(int i, int v) {
            if (holds(i, 1)) {
                cells[i] = cut(v);
            }
        }

        private int cut(int v) {
            switch (lane) {
                case BYTES: return (byte) v;
                case SHORTS: return (short) v;
                default: return v;
            }
        }
    }

    /** A fish as the text, or a later call, tells it. */
    private static final class Fish {
        int kind;
        int size;
        int scales;
        int song;
        int secret;

        void take(Sheet text, int i) {
            kind = kindOf(text.at(i + 1));
            size = text.at(i + 2) - '0';
            scales = text.at(i + 3) - '0';
            song = text.at(i + 4) - '0';
            secret = text.at(i + 5) - '0';
        }
    }

    /** The ford as it is told: there is none while it counts no fish. */
    private static final class Told {
        final Fish[] fish;
        int count;
        int dear;
        int known;

        Told() {
            fish = new Fish[MOST_FISH];
            for (int f = 0; f < MOST_FISH; f++) {
                fish[f] = new Fish();
            }
            count = 0;
            dear = 0;
            known = 0;
        }

        boolean has(int f) {
            return f >= 0 && f < count;
        }

        void take(Sheet text, int i, int n) {
            dear = text.at(i + 1) - '0';
            known = 0;
            count = Math.min((n - HEAD_CODES) / FISH_CODES, MOST_FISH);
            for (int f = 0; f < count; f++) {
                fish[f].take(text, i + HEAD_CODES + f * FISH_CODES);
            }
        }
    }

    /** What stands while passes go on. It starts with what is told, of which a call may put some otherwise. */
    private static final class Crossing {
        final int[] kind;
        final int[] size;
        final int[] scales;
        final int[] song;
        final int[] secret;
        final int[][] owed;
        final int[] groups;
        final int[] sums;
        int count;
        int dear;
        int known;
        int harmed;
        int above;
        int got;

        Crossing() {
            kind = new int[MOST_FISH];
            size = new int[MOST_FISH];
            scales = new int[MOST_FISH];
            song = new int[MOST_FISH];
            secret = new int[MOST_FISH];
            owed = new int[MOST_FISH][MOST_FISH];
            groups = new int[1 << MOST_FISH];
            sums = new int[1 << MOST_FISH];
        }

        void start(Told told) {
            count = told.count;
            dear = told.dear;
            known = told.known;
            harmed = 0;
            above = 0;
            got = 0;
            for (int f = 0; f < count; f++) {
                Fish fish = told.fish[f];
                kind[f] = fish.kind;
                size[f] = fish.size;
                scales[f] = fish.scales;
                song[f] = fish.song;
                secret[f] = fish.secret;
                Arrays.fill(owed[f], 0);
            }
        }

        /** Goes through n pairs of a sheet from i on: the first wrong; NONE: they can be. */
        int walk(Sheet row, int i, int n) {
            for (int pair = 0; pair < n; pair++) {
                if (pass(row.at(i + 2 * pair), row.at(i + 2 * pair + 1)) == CANNOT) {
                    return pair;
                }
            }
            return NONE;
        }

        /** Brings a fish to the other side: who gave scales for it, NOBODY, or CANNOT. */
        int pass(int f, int how) {
            int payer = payerOf(f, how);
            if (payer == CANNOT) {
                return CANNOT;
            }
            if (payer != NOBODY) {
                pay(f, payer, tollOf(f));
            } else {
                turnWord(f, how);
            }
            above ^= 1 << f;
            return payer;
        }

        /** Takes back the latest pass, of which pass() answered the payer. */
        void unpass(int f, int how, int payer) {
            above ^= 1 << f;
            if (payer != NOBODY) {
                pay(f, payer, -tollOf(f));
            } else {
                turnWord(f, how);
            }
        }

        private int payerOf(int f, int how) {
            if (f < 0 || f >= count) {
                return CANNOT;
            }
            int toll = tollOf(f);
            switch (how) {
                case BY_SCALES: return scales[f] >= toll ? f : CANNOT;
                case BY_SONG: return hasNewSong(f) ? NOBODY : CANNOT;
                case BY_SECRET: return hasSecret(f) ? NOBODY : CANNOT;
                case ON_CREDIT: return lenderFor(f, toll);
                default: return CANNOT;
            }
        }

        private void pay(int f, int payer, int much) {
            scales[payer] -= much;
            got += much;
            if (payer != f) {
                owed[f][payer] += much;
            }
        }

        /** A song or a secret that is told, or taken back. */
        private void turnWord(int f, int how) {
            if (how == BY_SONG) {
                known ^= 1 << song[f];
            } else {
                harmed ^= 1 << secret[f];
            }
        }

        private boolean hasNewSong(int f) {
            return song[f] < SONGS && (known >> song[f] & 1) == 0;
        }

        private boolean hasSecret(int f) {
            return secret[f] != f && secret[f] < count && (harmed >> secret[f] & 1) == 0;
        }

        private int lenderFor(int f, int toll) {
            for (int eel = 0; eel < count; eel++) {
                if (eel != f && kind[eel] != FISH && scales[eel] >= toll) {
                    return eel;
                }
            }
            return CANNOT;
        }

        int tollOf(int f) {
            int toll = shareOf(kind[f], size[f]) + (isBelow(f) ? dear : 0);
            return (harmed >> f & 1) == 1 ? 2 * toll : toll;
        }

        boolean isBelow(int f) {
            return (above >> f & 1) == 0;
        }

        /**
         * So many scales, or more, the heron still gets until all are above; BEYOND, or more: they can't all pass.
         * Each fish is counted as if it passed now: later its ways are never more, and its toll is never less.
         */
        int stillDue(int ways) {
            int due = 0;
            for (int f = 0; f < count; f++) {
                if (isBelow(f)) {
                    due += cheapest(f, ways);
                }
            }
            return due;
        }

        private int cheapest(int f, int ways) {
            if (mayBe(ways, BY_SONG) && hasNewSong(f) || mayBe(ways, BY_SECRET) && hasSecret(f)) {
                return 0;
            }
            int toll = tollOf(f);
            boolean pays = mayBe(ways, BY_SCALES) && scales[f] >= toll;
            return pays || mayBe(ways, ON_CREDIT) && lenderFor(f, toll) != CANNOT ? toll : BEYOND;
        }

        /**
         * A group whose members owe one another alone needs a payment less than it has members (one who owes
         * nothing is such a group): so the most groups make the fewest payments.
         */
        int fewestPayments() {
            int all = (1 << count) - 1;
            groups[0] = 0;
            sums[0] = 0;
            for (int set = 1; set <= all && set < groups.length; set++) {
                groups[set] = 0;
                for (int f = 0; f < count; f++) {
                    if ((set >> f & 1) == 1) {
                        int rest = set ^ 1 << f;
                        sums[set] = sums[rest] + netOf(f);
                        groups[set] = Math.max(groups[set], groups[rest]);
                    }
                }
                if (sums[set] == 0) {
                    groups[set]++;
                }
            }
            return count - groups[all];
        }

        private int netOf(int f) {
            int net = 0;
            for (int other = 0; other < count; other++) {
                net += owed[f][other] - owed[other][f];
            }
            return net;
        }
    }

    /** The search for the least; what it found stands until the ford is told otherwise. */
    private static final class Search {
        final Crossing crossing;
        final int[] row;
        final int[] bestRow;
        int ways;
        int best;

        Search() {
            crossing = new Crossing();
            row = new int[MOST_FISH];
            bestRow = new int[MOST_FISH];
            ways = 0;
            best = BEYOND;
        }

        void forget() {
            ways = 0;
        }

        void find(Told told, int newWays) {
            if (ways == newWays) {
                return;
            }
            ways = newWays;
            best = BEYOND;
            crossing.start(told);
            goOn(this, 0);
        }

        /** Tries all rows that go on from the first passes, in their order, so that the first of the best is kept. */
        private static void goOn(Search search, int depth) {
            Crossing crossing = search.crossing;
            if (crossing.got + crossing.stillDue(search.ways) >= search.best) {
                return;
            }
            if (depth >= crossing.count || depth >= MOST_FISH) {
                search.best = crossing.got;
                System.arraycopy(search.row, 0, search.bestRow, 0, MOST_FISH);
                return;
            }
            for (int f = 0; f < crossing.count; f++) {
                for (int how = BY_SCALES; how <= ON_CREDIT && crossing.isBelow(f); how++) {
                    int payer = mayBe(search.ways, how) ? crossing.pass(f, how) : CANNOT;
                    if (payer != CANNOT) {
                        search.row[depth] = 10 * f + how;
                        goOn(search, depth + 1);
                        crossing.unpass(f, how, payer);
                    }
                }
            }
        }
    }

    /** How many scales fish had behind passes. */
    private static final class Readings {
        final int[] fish;
        final int[] left;
        int count;

        Readings() {
            fish = new int[MOST_READINGS];
            left = new int[MOST_READINGS];
            count = 0;
        }

        int add(int f, int v) {
            if (count >= MOST_READINGS) {
                return FULL;
            }
            fish[count] = f;
            left[count] = v;
            count++;
            return count - 1;
        }

        boolean areSo(Crossing crossing) {
            for (int r = 0; r < count; r++) {
                if (crossing.scales[fish[r]] != left[r]) {
                    return false;
                }
            }
            return true;
        }
    }
}
