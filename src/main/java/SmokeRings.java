import java.util.Arrays;

/**
 * Smoke rings in a valley: who gets bound to what by blowing them, and what might have been.
 * No call throws, and after the constructor none makes an object.
 */
public final class SmokeRings {
    public static final int NONE = -1, BAD = -2, NOT = -3, FULL = -4;

    private static final int STEPS = 20, SIDE = 6, CELLS = 36, WAYS = 4;
    private static final int RINGS = 8, THINGS = 8, FOLK = 4, SIGHTS = 8;
    private static final int MOST_BREATH = 9, MOST_WIDTH = 9, MOST_WIDENS = 4;
    private static final int TEXTS = 3, VALLEY_TEXT = 0, THINGS_TEXT = 1;
    private static final int THING_BYTES = 5;
    private static final int PERSON = 0, BEAST = 1, LIFELESS = 2;
    /** A step in which nothing is blown: a ring told for it is not blown at all. */
    private static final int NEVER_BLOWN = STEPS;
    private static final int WAITS = 0, GOES = 1, FELL = 2, BROKEN = 3, FADED = 4;
    private static final int LOOKS = 4;
    private static final int NOT_AT_ALL = 4, OUTCOMES = 5;
    private static final int SIXTEENTHS = 16, LAST_STILL = 9;
    private static final int SHEETS = 4, FORMS = 3, MOST_ITEMS = 60, RING_ITEMS = 5;
    private static final int NULL_FOUND = 1, INDEX_FOUND = 2, CAST_FOUND = 3, STORE_FOUND = 4, SIZE_FOUND = 5;
    private static final int LEAST_INT = 1 << 31;
    private static final long LEAST_LONG = 1L << 63;
    private static final int[] TEXT_ROOMS = {41, 39, 20};
    private static final int[] DIGEST_STEPS = {0, 4, 9, 19};

    private final Text[] texts = new Text[TEXTS];
    private final int[] faults = {NONE, NONE, NONE};
    private final Valley valley = new Valley();
    private final Night told = new Night();
    private final Play base = new Play(valley);
    private final Diary diary = new Diary();
    private final Sights sights = new Sights();
    private final Plans plans;
    private final Guesses guesses;
    private final Chances chances;
    private final Sheet[] sheets = new Sheet[SHEETS];
    private int finding = 0;
    /** Whether base and diary tell of all that is told now. */
    private boolean played = false;

    public SmokeRings() {
        for (int i = 0; i < TEXTS; i++) {
            texts[i] = new Text(TEXT_ROOMS[i]);
        }
        for (int i = 0; i < SHEETS; i++) {
            sheets[i] = new Sheet();
        }
        Night trial = new Night();
        Play play = new Play(valley);
        plans = new Plans(valley, told, trial, play);
        guesses = new Guesses(valley, told, trial, play, sights);
        chances = new Chances(valley, told, trial, play);
    }

    // ---- the valley, things, the wind, rings

    public int type(int text, int b) {
        if (!within(text, 0, TEXTS - 1) || !within(b, 0, 255)) {
            return BAD;
        }
        if (!texts[text].append(b)) {
            return FULL;
        }
        reread(text);
        return texts[text].length;
    }

    public int wipe(int text) {
        if (!within(text, 0, TEXTS - 1)) {
            return BAD;
        }
        int had = texts[text].length;
        texts[text].length = 0;
        reread(text);
        return had;
    }

    public int undo(int text) {
        if (!within(text, 0, TEXTS - 1)) {
            return BAD;
        }
        if (texts[text].length <= 0) {
            return NOT;
        }
        texts[text].length--;
        reread(text);
        return texts[text].length;
    }

    public int fault(int text) {
        return within(text, 0, TEXTS - 1) ? faults[text] : BAD;
    }

    public int cell(int cell) {
        if (!within(cell, 0, CELLS - 1)) {
            return BAD;
        }
        if (cell >= valley.cells) {
            return NONE;
        }
        return valley.isOpen(cell) ? 0 : 1;
    }

    public int thing(int thing, int what) {
        if (!isThing(thing)) {
            return BAD;
        }
        switch (what) {
            case 0: return told.stands[thing];
            case 1: return told.thick[thing];
            case 2: return told.kind[thing];
            default: return BAD;
        }
    }

    public int wind(int step) {
        return within(step, 0, STEPS - 1) ? told.wind[step] : BAD;
    }

    public int widens(int v) {
        if (!within(v, 1, MOST_WIDENS)) {
            return BAD;
        }
        int was = told.widens;
        told.widens = v;
        played = false;
        return was;
    }

    public int blow(int step, int cell, int way, int breath, int whom) {
        if (!mayBlow(step, cell, way, breath, whom)) {
            return BAD;
        }
        if (told.rings >= RINGS) {
            return FULL;
        }
        told.addRing(step, cell, way, breath, whom);
        played = false;
        return told.rings;
    }

    public int ring(int ring, int what) {
        if (!isRing(ring)) {
            return BAD;
        }
        switch (what) {
            case 0: return told.blown[ring];
            case 1: return told.from[ring];
            case 2: return told.way[ring];
            case 3: return told.breath[ring];
            case 4: return told.whom[ring];
            default: return BAD;
        }
    }

    public int back() {
        if (told.rings <= 0) {
            return NOT;
        }
        told.rings--;
        played = false;
        return told.rings;
    }

    public int read(int s) {
        if (!within(s, 0, SHEETS - 1)) {
            return BAD;
        }
        Sheet sheet = sheets[s];
        if (sheet.isLost()) {
            return found(NULL_FOUND);
        }
        int came = 0;
        for (int i = 0; i + RING_ITEMS <= sheet.length && told.rings < RINGS; i += RING_ITEMS) {
            int step = sheet.item(i), cell = sheet.item(i + 1), way = sheet.item(i + 2);
            int breath = sheet.item(i + 3), whom = sheet.item(i + 4);
            if (!mayBlow(step, cell, way, breath, whom)) {
                break;
            }
            told.addRing(step, cell, way, breath, whom);
            came++;
        }
        played = false;
        return came;
    }

    // ---- steps

    public int at(int step, int ring, int what) {
        if (!within(step, 0, STEPS - 1) || !isRing(ring) || !within(what, 0, LOOKS - 1)) {
            return BAD;
        }
        playTold();
        return diary.look(step, ring, what);
    }

    public int bound(int thing, int what) {
        if (!isThing(thing)) {
            return BAD;
        }
        playTold();
        switch (what) {
            case 0: return base.boundBy[thing];
            case 1: return base.boundIn[thing];
            case 2: return base.boundTo[thing];
            default: return BAD;
        }
    }

    public int wed(int whom, int what) {
        if (!within(whom, 0, FOLK - 1) || !within(what, 0, 1)) {
            return BAD;
        }
        playTold();
        return what == 0 ? base.wedBits(told, whom) : base.upkeepOf(told, whom);
    }

    public int throughs(int what) {
        if (!within(what, 0, 1)) {
            return BAD;
        }
        playTold();
        return what == 0 ? base.pairs : base.firstPair;
    }

    public int missed() {
        playTold();
        int bits = 0;
        for (int r = 0; r < told.rings; r++) {
            if (base.state[r] != FELL) {
                bits |= 1 << r;
            }
        }
        return bits;
    }

    public int richest() {
        playTold();
        int richest = NONE, most = 0;
        for (int whom = 0; whom < FOLK; whom++) {
            int has = Integer.bitCount(base.wedBits(told, whom));
            if (has > most) {
                most = has;
                richest = whom;
            }
        }
        return richest;
    }

    public int lonely() {
        playTold();
        int lonely = NONE, last = NONE;
        for (int t = 0; t < told.things; t++) {
            if (base.boundIn[t] > last) {
                last = base.boundIn[t];
                lonely = t;
            }
        }
        return lonely;
    }

    // ---- plans

    public int breath(int ring, int thing) {
        return isRing(ring) && isThing(thing) ? plans.leastBreath(ring, thing) : BAD;
    }

    public int aim(int ring, int what) {
        if (!isRing(ring) || !within(what, 0, 2)) {
            return BAD;
        }
        plans.seekAim(ring);
        return what == 0 ? plans.aimWay : what == 1 ? plans.aimBreath : plans.aimMost;
    }

    public int stand(int thing) {
        return isThing(thing) ? plans.safeCell(thing) : BAD;
    }

    public int hush(int thing, int i) {
        if (!isThing(thing) || !within(i, NONE, 1)) {
            return BAD;
        }
        plans.seekHush(thing);
        return plans.few.pick(i);
    }

    public int calm(int what) {
        if (!within(what, 0, 1)) {
            return BAD;
        }
        plans.seekCalm();
        return what == 0 ? plans.calmStep : plans.calmMost;
    }

    public int free(int whom, int most, int i) {
        if (!within(whom, 0, FOLK - 1) || !within(most, 0, 99) || !within(i, NONE, 1)) {
            return BAD;
        }
        playTold();
        plans.seekFree(base, whom, most);
        return plans.few.pick(i);
    }

    // ---- seen, chance, evenings

    public int seen(int thing, int whom) {
        if (!within(thing, 0, THINGS - 1) || !within(whom, 0, NOT_AT_ALL)) {
            return BAD;
        }
        return sights.note(thing, whom) ? sights.length : FULL;
    }

    public int forget() {
        int had = sights.length;
        sights.length = 0;
        return had;
    }

    public int never() {
        return guesses.neverBits();
    }

    public int whence(int ring, int i) {
        if (!isRing(ring) || !within(i, NONE, CELLS - 1)) {
            return BAD;
        }
        guesses.seekWhence(ring);
        return guesses.pickWhence(i);
    }

    public int paces() {
        return guesses.paceBits();
    }

    public int ask() {
        return guesses.bestAsk();
    }

    public long still(int c, int last, int thing, int whom, int what) {
        if (!within(c, 0, SIXTEENTHS) || !within(last, 0, LAST_STILL) || !isThing(thing)
                || !within(whom, 0, FOLK - 1) || !within(what, 0, 1)) {
            return LEAST_LONG - BAD;
        }
        chances.weigh(c, last);
        return what == 0 ? chances.above(thing, whom) : chances.below(thing, whom);
    }

    public int evening(int seed, int n, int what) {
        if (!within(n, 1, RINGS) || !within(what, 0, 1)) {
            return BAD;
        }
        chances.playLots(seed, n);
        return what == 0 ? chances.lotsBound : chances.lotsBroken;
    }

    // ---- sheets

    public int sheet(int s, int form, int n) {
        if (!within(s, 0, SHEETS - 1) || !within(form, 0, FORMS - 1) || n > MOST_ITEMS) {
            return BAD;
        }
        if (n < 0) {
            return found(SIZE_FOUND);
        }
        sheets[s].renew(form, n);
        return n;
    }

    public int lose(int s) {
        if (!within(s, 0, SHEETS - 1)) {
            return BAD;
        }
        if (sheets[s].isLost()) {
            return found(NULL_FOUND);
        }
        int had = sheets[s].length;
        sheets[s].renew(NONE, 0);
        return had;
    }

    public int lay(int s, int form, int i, int v) {
        if (!within(s, 0, SHEETS - 1) || !within(form, 0, FORMS - 1)) {
            return BAD;
        }
        int trouble = sheets[s].trouble(form, i);
        if (trouble != 0) {
            return found(trouble);
        }
        sheets[s].put(i, v);
        return 1;
    }

    public int get(int s, int form, int i) {
        if (!within(s, 0, SHEETS - 1) || !within(form, 0, FORMS - 1)) {
            return LEAST_INT;
        }
        int trouble = sheets[s].trouble(form, i);
        if (trouble != 0) {
            found(trouble);
            return LEAST_INT;
        }
        return sheets[s].item(i);
    }

    public int copy(int s, int i, int t, int j, int n) {
        if (!within(s, 0, SHEETS - 1) || !within(t, 0, SHEETS - 1)) {
            return BAD;
        }
        Sheet source = sheets[s], target = sheets[t];
        if (source.isLost() || target.isLost()) {
            return found(NULL_FOUND);
        }
        if (source.form != target.form) {
            return found(STORE_FOUND);
        }
        if (!source.hasRun(i, n) || !target.hasRun(j, n)) {
            return found(INDEX_FOUND);
        }
        System.arraycopy(source.items, i, target.items, j, n);
        return 1;
    }

    public int write(int ring, int s) {
        if (!isRing(ring) || !within(s, 0, SHEETS - 1)) {
            return BAD;
        }
        if (sheets[s].isLost()) {
            return found(NULL_FOUND);
        }
        playTold();
        int n = Math.min(sheets[s].length, STEPS);
        for (int step = 0; step < n; step++) {
            sheets[s].put(step, diary.look(step, ring, 1));
        }
        return n;
    }

    public int count(int what) {
        switch (what) {
            case 0: return valley.cells;
            case 1: return told.things;
            case 2: return texts[0].length;
            case 3: return texts[1].length;
            case 4: return texts[2].length;
            case 5: return told.rings;
            case 6: playTold(); return base.boundThings;
            case 7: return sights.length;
            case 8: return finding;
            default: return BAD;
        }
    }

    public long digest() {
        playTold();
        long h = 17;
        for (int what = 0; what < 8; what++) {
            h = mixed(h, count(what));
        }
        for (int text = 0; text < TEXTS; text++) {
            h = mixed(h, faults[text]);
        }
        for (int cell = 0; cell < valley.cells; cell++) {
            h = mixed(h, cell(cell));
        }
        for (int step = 0; step < STEPS; step++) {
            h = mixed(h, told.wind[step]);
        }
        for (int r = 0; r < told.rings; r++) {
            h = digestRing(h, r);
        }
        chances.weigh(5, 5);
        for (int t = 0; t < told.things; t++) {
            h = digestThing(h, t);
        }
        for (int whom = 0; whom < FOLK; whom++) {
            h = digestWhom(h, whom);
        }
        return digestRest(h);
    }

    // ---- parts of the digest: each search is done once, though several of its answers count

    private long digestRing(long start, int r) {
        long h = start;
        for (int what = 0; what < RING_ITEMS; what++) {
            h = mixed(h, ring(r, what));
        }
        for (int i = 0; i < DIGEST_STEPS.length; i++) {
            for (int what = 0; what < LOOKS; what++) {
                h = mixed(h, diary.look(DIGEST_STEPS[i], r, what));
            }
        }
        plans.seekAim(r);
        h = mixed(h, plans.aimWay);
        h = mixed(h, plans.aimBreath);
        h = mixed(h, plans.aimMost);
        h = mixed(h, isThing(0) ? plans.leastBreath(r, 0) : BAD);
        guesses.seekWhence(r);
        h = mixed(h, guesses.pickWhence(NONE));
        return mixed(h, guesses.pickWhence(0));
    }

    /** The chances must have been weighed. */
    private long digestThing(long start, int t) {
        long h = start;
        for (int what = 0; what < 3; what++) {
            h = mixed(h, thing(t, what));
        }
        h = mixed(h, base.boundBy[t]);
        h = mixed(h, base.boundIn[t]);
        h = mixed(h, base.boundTo[t]);
        h = mixed(h, plans.safeCell(t));
        plans.seekHush(t);
        h = mixed(h, plans.few.pick(NONE));
        h = mixed(h, plans.few.pick(0));
        h = mixed(h, chances.above(t, 0));
        return mixed(h, chances.below(t, 0));
    }

    private long digestWhom(long start, int whom) {
        long h = mixed(start, base.wedBits(told, whom));
        h = mixed(h, base.upkeepOf(told, whom));
        plans.seekFree(base, whom, 9);
        h = mixed(h, plans.few.pick(NONE));
        return mixed(h, plans.few.pick(0));
    }

    private long digestRest(long start) {
        long h = mixed(start, base.pairs);
        h = mixed(h, base.firstPair);
        h = mixed(h, missed());
        h = mixed(h, richest());
        h = mixed(h, lonely());
        plans.seekCalm();
        h = mixed(h, plans.calmStep);
        h = mixed(h, plans.calmMost);
        h = mixed(h, guesses.neverBits());
        h = mixed(h, guesses.paceBits());
        h = mixed(h, guesses.bestAsk());
        chances.playLots(7, 6);
        h = mixed(h, chances.lotsBound);
        return mixed(h, chances.lotsBroken);
    }

    private static long mixed(long h, long v) {
        return 31 * h + v;
    }

    // ---- what the calls share

    private static boolean within(int v, int least, int most) {
        return v >= least && v <= most;
    }

    private static boolean mayBlow(int step, int cell, int way, int breath, int whom) {
        return within(step, 0, STEPS - 1) && within(cell, 0, CELLS - 1) && within(way, 0, WAYS - 1)
                && within(breath, 1, MOST_BREATH) && within(whom, 0, FOLK - 1);
    }

    private boolean isRing(int ring) {
        return within(ring, 0, told.rings - 1);
    }

    private boolean isThing(int thing) {
        return within(thing, 0, told.things - 1);
    }

    private int found(int number) {
        finding = number;
        return -10 - number;
    }

    private void reread(int text) {
        if (text == VALLEY_TEXT) {
            faults[text] = valley.reread(texts[text]);
        } else if (text == THINGS_TEXT) {
            faults[text] = told.rereadThings(texts[text]);
        } else {
            faults[text] = told.rereadWind(texts[text]);
        }
        played = false;
    }

    private void playTold() {
        if (played) {
            return;
        }
        base.begin(told);
        for (int step = 0; step < STEPS; step++) {
            base.takeStep(told, step);
            diary.keep(step, base);
        }
        played = true;
    }

    /** Bytes as they were typed, well or not. */
    private static final class Text {
        final int[] bytes;
        int length = 0;

        Text(int room) {
            bytes = new int[Math.max(room, 0)];
        }

        boolean append(int b) {
            if (length >= bytes.length) {
                return false;
            }
            bytes[length] = b;
            length++;
            return true;
        }

        int sign(int i) {
            return i >= 0 && i < length ? bytes[i] : NONE;
        }
    }

    /** The cells, and which one is next to which. */
    private static final class Valley {
        int cells = 0;
        final boolean[] open = new boolean[CELLS];
        /** At cell * WAYS + way: the open cell one goes to; NONE into a wall, beyond the edge, from no cell. */
        final int[] next = new int[CELLS * WAYS];

        boolean isOpen(int cell) {
            return cell >= 0 && cell < cells && open[cell];
        }

        /** Takes the cells from a text and answers its fault; with one there are no cells. */
        int reread(Text text) {
            int fault = firstFault(text);
            int columns = 0;
            cells = 0;
            if (fault == NONE) {
                columns = fill(text);
            }
            for (int cell = 0; cell < CELLS; cell++) {
                link(cell, columns);
            }
            return fault;
        }

        private static int firstFault(Text text) {
            int row = 0, column = 0;
            int columns = 0;
            for (int i = 0; i < text.length; i++) {
                int b = text.sign(i);
                if (b == ';') {
                    if (column == 0 || column < columns) {
                        return i;
                    }
                    columns = column;
                    column = 0;
                    row++;
                } else if (b == '.' || b == '#') {
                    if (row >= SIDE || column >= (row == 0 ? SIDE : columns)) {
                        return i;
                    }
                    column++;
                } else {
                    return i;
                }
            }
            boolean ended = column > 0 && column >= columns;
            return ended || text.length == 0 ? NONE : text.length;
        }

        /** Answers how many cells a row of a text without fault has. */
        private int fill(Text text) {
            int columns = 0;
            for (int i = 0; i < text.length; i++) {
                int b = text.sign(i);
                if (b == ';') {
                    columns = columns == 0 ? cells : columns;
                } else if (cells < CELLS) {
                    open[cells] = b == '.';
                    cells++;
                }
            }
            return columns == 0 ? cells : columns;
        }

        private void link(int cell, int columns) {
            int column = columns > 0 ? cell % columns : 0;
            link(cell, 0, cell - columns, true);
            link(cell, 1, cell + 1, column < columns - 1);
            link(cell, 2, cell + columns, true);
            link(cell, 3, cell - 1, column > 0);
        }

        private void link(int cell, int way, int to, boolean inRow) {
            next[cell * WAYS + way] = cell < cells && inRow && isOpen(to) ? to : NONE;
        }
    }

    /** All that is told, or supposed, of one night but for the valley: rings, things, the wind. */
    private static final class Night {
        int rings = 0;
        final int[] blown = new int[RINGS], from = new int[RINGS], way = new int[RINGS];
        final int[] breath = new int[RINGS], whom = new int[RINGS];
        int things = 0;
        final int[] stands = new int[THINGS], thick = new int[THINGS], kind = new int[THINGS];
        final int[] wind = new int[STEPS];
        int widens = 2;

        Night() {
            Arrays.fill(wind, NONE);
        }

        void becomes(Night other) {
            rings = other.rings;
            System.arraycopy(other.blown, 0, blown, 0, RINGS);
            System.arraycopy(other.from, 0, from, 0, RINGS);
            System.arraycopy(other.way, 0, way, 0, RINGS);
            System.arraycopy(other.breath, 0, breath, 0, RINGS);
            System.arraycopy(other.whom, 0, whom, 0, RINGS);
            things = other.things;
            System.arraycopy(other.stands, 0, stands, 0, THINGS);
            System.arraycopy(other.thick, 0, thick, 0, THINGS);
            System.arraycopy(other.kind, 0, kind, 0, THINGS);
            System.arraycopy(other.wind, 0, wind, 0, STEPS);
            widens = other.widens;
        }

        void addRing(int step, int cell, int toward, int puff, int man) {
            if (rings >= RINGS) {
                return;
            }
            blown[rings] = step;
            from[rings] = cell;
            way[rings] = toward;
            breath[rings] = puff;
            whom[rings] = man;
            rings++;
        }

        int upkeep(int t) {
            return thick[t] * (kind[t] == PERSON ? 3 : kind[t] == BEAST ? 2 : 1);
        }

        boolean fits(int width, int t) {
            int wider = width - thick[t];
            return wider >= 0 && (kind[t] == PERSON || wider <= (kind[t] == BEAST ? 1 : 3));
        }

        /** Takes the things from a text and answers its fault; with one there are no things. */
        int rereadThings(Text text) {
            int fault = thingsFault(text);
            things = fault == NONE ? Math.min((text.length + 1) / THING_BYTES, THINGS) : 0;
            for (int t = 0; t < things; t++) {
                int i = t * THING_BYTES;
                stands[t] = (text.sign(i) - '0') * 10 + text.sign(i + 1) - '0';
                thick[t] = text.sign(i + 2) - '0';
                int b = text.sign(i + 3);
                kind[t] = b == 'p' ? PERSON : b == 'b' ? BEAST : LIFELESS;
            }
            return fault;
        }

        private static int thingsFault(Text text) {
            for (int i = 0; i < text.length; i++) {
                if (i / THING_BYTES >= THINGS || !fitsThing(i % THING_BYTES, text.sign(i))) {
                    return i;
                }
            }
            boolean ended = text.length == 0 || text.length % THING_BYTES == THING_BYTES - 1;
            return ended ? NONE : text.length;
        }

        private static boolean fitsThing(int place, int b) {
            switch (place) {
                case 0: return b >= '0' && b <= '3';
                case 1: return b >= '0' && b <= '9';
                case 2: return b >= '1' && b <= '9';
                case 3: return b == 'p' || b == 'b' || b == 't';
                default: return b == ';';
            }
        }

        /** Takes the wind from a text and answers its fault; with one there is no wind. */
        int rereadWind(Text text) {
            Arrays.fill(wind, NONE);
            for (int i = 0; i < text.length && i < STEPS; i++) {
                int drives = windOf(text.sign(i));
                if (drives == BAD) {
                    Arrays.fill(wind, NONE);
                    return i;
                }
                wind[i] = drives;
            }
            return NONE;
        }

        private static int windOf(int b) {
            switch (b) {
                case 'n': return 0;
                case 'e': return 1;
                case 's': return 2;
                case 'w': return 3;
                case '.': return NONE;
                default: return BAD;
            }
        }
    }

    /** One night as it goes, step by step. */
    private static final class Play {
        final Valley valley;
        final int[] state = new int[RINGS], cell = new int[RINGS];
        final int[] width = new int[RINGS], left = new int[RINGS];
        final int[] boundBy = new int[THINGS], boundIn = new int[THINGS], boundTo = new int[THINGS];
        int boundThings = 0;
        int pairs = 0;
        int firstPair = NONE;
        /** How many rings go or wait: without them nothing comes any more. */
        private int lively = 0;
        /** The cells with things, as bits, so that most falls need no search. */
        private long laden = 0;

        Play(Valley v) {
            valley = v;
        }

        void playAll(Night night) {
            begin(night);
            for (int step = 0; step < STEPS && lively > 0; step++) {
                takeStep(night, step);
            }
        }

        void begin(Night night) {
            lively = 0;
            for (int r = 0; r < night.rings; r++) {
                state[r] = WAITS;
                cell[r] = NONE;
                width[r] = 0;
                left[r] = night.breath[r];
                if (night.blown[r] < STEPS) {
                    lively++;
                }
            }
            laden = 0;
            for (int t = 0; t < night.things; t++) {
                boundBy[t] = NONE;
                boundIn[t] = NONE;
                boundTo[t] = NONE;
                laden |= 1L << night.stands[t];
            }
            boundThings = 0;
            pairs = 0;
            firstPair = NONE;
        }

        void takeStep(Night night, int step) {
            long taken = 0;
            boolean crowded = false;
            // rings do not meet while they move, so each may move, be blown and widen by itself
            for (int r = 0; r < night.rings; r++) {
                if (state[r] == GOES) {
                    move(night, r, step);
                } else if (state[r] == WAITS && night.blown[r] == step) {
                    start(night, r);
                }
                if (state[r] == GOES) {
                    long bit = 1L << cell[r];
                    crowded = crowded || (taken & bit) != 0;
                    taken |= bit;
                }
            }
            if (crowded) {
                meet(night, step);
            }
            if ((taken & laden) != 0) {
                fall(night, step);
            }
        }

        private void move(Night night, int r, int step) {
            boolean whole = true;
            if (left[r] > 0) {
                left[r]--;
                whole = shift(r, night.way[r]);
            }
            if (whole && night.wind[step] != NONE) {
                whole = shift(r, night.wind[step]);
            }
            if (!whole) {
                settle(r, BROKEN);
                return;
            }
            if (step - night.blown[r] >= width[r] * night.widens) {
                width[r]++;
            }
            if (width[r] > MOST_WIDTH) {
                settle(r, FADED);
            }
        }

        private boolean shift(int r, int way) {
            int i = cell[r] * WAYS + way;
            int to = i >= 0 && i < valley.next.length ? valley.next[i] : NONE;
            if (to == NONE) {
                return false;
            }
            cell[r] = to;
            return true;
        }

        private void start(Night night, int r) {
            width[r] = 1;
            cell[r] = night.from[r] < valley.cells ? night.from[r] : NONE;
            if (valley.isOpen(cell[r])) {
                state[r] = GOES;
            } else {
                settle(r, BROKEN);
            }
        }

        private void settle(int r, int end) {
            state[r] = end;
            lively--;
        }

        private void meet(Night night, int step) {
            int broken = 0;
            for (int a = 0; a < night.rings; a++) {
                for (int b = a + 1; b < night.rings && state[a] == GOES; b++) {
                    if (state[b] != GOES || cell[a] != cell[b]) {
                        continue;
                    }
                    if (width[a] == width[b]) {
                        broken |= 1 << a | 1 << b;
                    } else {
                        firstPair = pairs == 0 ? step : firstPair;
                        pairs++;
                    }
                }
            }
            for (int r = 0; r < night.rings; r++) {
                if ((broken >> r & 1) != 0) {
                    settle(r, BROKEN);
                }
            }
        }

        private void fall(Night night, int step) {
            for (int r = 0; r < night.rings; r++) {
                for (int t = 0; t < night.things && state[r] == GOES; t++) {
                    if (night.stands[t] == cell[r] && boundBy[t] == NONE && night.fits(width[r], t)) {
                        boundBy[t] = r;
                        boundIn[t] = step;
                        boundTo[t] = night.whom[r];
                        boundThings++;
                        settle(r, FELL);
                    }
                }
            }
        }

        int wedBits(Night night, int whom) {
            int bits = 0;
            for (int t = 0; t < night.things; t++) {
                if (boundTo[t] == whom) {
                    bits |= 1 << t;
                }
            }
            return bits;
        }

        int upkeepOf(Night night, int whom) {
            int sum = 0;
            for (int t = 0; t < night.things; t++) {
                if (boundTo[t] == whom) {
                    sum += night.upkeep(t);
                }
            }
            return sum;
        }

        int brokenRings(Night night) {
            int n = 0;
            for (int r = 0; r < night.rings; r++) {
                if (state[r] == BROKEN) {
                    n++;
                }
            }
            return n;
        }

        /** To whom a thing is bound; NOT_AT_ALL. */
        int outcome(int t) {
            return boundTo[t] == NONE ? NOT_AT_ALL : boundTo[t];
        }
    }

    /** How the rings were behind each step. */
    private static final class Diary {
        private final int[] pages = new int[STEPS * RINGS * LOOKS];

        void keep(int step, Play play) {
            for (int r = 0; r < RINGS; r++) {
                int i = (step * RINGS + r) * LOOKS;
                if (i >= 0 && i + LOOKS <= pages.length) {
                    pages[i] = play.state[r];
                    pages[i + 1] = play.cell[r];
                    pages[i + 2] = play.width[r];
                    pages[i + 3] = play.left[r];
                }
            }
        }

        int look(int step, int r, int what) {
            int i = (step * RINGS + r) * LOOKS + what;
            return i >= 0 && i < pages.length ? pages[i] : NONE;
        }
    }

    /** A row of at most two, or none. */
    private static final class Few {
        private int size = NONE, first = NONE, second = NONE;

        void become(int n, int a, int b) {
            size = n;
            first = a;
            second = b;
        }

        int pick(int i) {
            return i == NONE ? size : i == 0 ? first : second;
        }
    }

    /** What had better be done. */
    private static final class Plans {
        private final Valley valley;
        private final Night told, trial;
        private final Play play;
        int aimWay = 0, aimBreath = 1, aimMost = 0;
        int calmStep = 0, calmMost = 0;
        /** The row that was sought last. */
        final Few few = new Few();

        Plans(Valley v, Night asTold, Night scratch, Play p) {
            valley = v;
            told = asTold;
            trial = scratch;
            play = p;
        }

        int leastBreath(int r, int t) {
            trial.becomes(told);
            for (int b = 1; b <= MOST_BREATH; b++) {
                trial.breath[r] = b;
                play.playAll(trial);
                if (play.boundBy[t] == r) {
                    return b;
                }
                if (play.left[r] > 0) {
                    // it never lacked breath, so with more of it all would go the same way
                    return NONE;
                }
            }
            return NONE;
        }

        void seekAim(int r) {
            trial.becomes(told);
            aimMost = NONE;
            for (int way = 0; way < WAYS; way++) {
                trial.way[r] = way;
                boolean spent = true;
                // with breath left over, more of it would change nothing
                for (int b = 1; b <= MOST_BREATH && spent; b++) {
                    trial.breath[r] = b;
                    play.playAll(trial);
                    spent = play.left[r] <= 0;
                    if (play.boundThings > aimMost) {
                        aimMost = play.boundThings;
                        aimWay = way;
                        aimBreath = b;
                    }
                }
            }
        }

        int safeCell(int t) {
            trial.becomes(told);
            for (int cell = 0; cell < valley.cells; cell++) {
                trial.stands[t] = cell;
                if (valley.isOpen(cell) && !binds(t)) {
                    return cell;
                }
            }
            return NONE;
        }

        private boolean binds(int t) {
            play.playAll(trial);
            return play.boundBy[t] != NONE;
        }

        void seekHush(int t) {
            trial.becomes(told);
            if (!binds(t)) {
                few.become(0, NONE, NONE);
                return;
            }
            for (int a = 0; a < trial.rings; a++) {
                trial.blown[a] = NEVER_BLOWN;
                if (!binds(t)) {
                    few.become(1, a, NONE);
                    return;
                }
                trial.blown[a] = told.blown[a];
            }
            for (int a = 0; a < trial.rings; a++) {
                trial.blown[a] = NEVER_BLOWN;
                for (int b = a + 1; b < trial.rings; b++) {
                    trial.blown[b] = NEVER_BLOWN;
                    if (!binds(t)) {
                        few.become(2, a, b);
                        return;
                    }
                    trial.blown[b] = told.blown[b];
                }
                trial.blown[a] = told.blown[a];
            }
            few.become(NONE, NONE, NONE);
        }

        void seekCalm() {
            trial.becomes(told);
            play.playAll(trial);
            int asTold = play.boundThings;
            calmMost = NONE;
            for (int step = 0; step < STEPS; step++) {
                int most = asTold;
                if (told.wind[step] != NONE) {
                    trial.wind[step] = NONE;
                    play.playAll(trial);
                    most = play.boundThings;
                    trial.wind[step] = told.wind[step];
                }
                if (most > calmMost) {
                    calmMost = most;
                    calmStep = step;
                }
            }
        }

        void seekFree(Play done, int whom, int most) {
            int bits = done.wedBits(told, whom);
            int spare = done.upkeepOf(told, whom) - most;
            if (spare <= 0) {
                few.become(0, NONE, NONE);
                return;
            }
            for (int a = 0; a < told.things; a++) {
                if ((bits >> a & 1) != 0 && told.upkeep(a) >= spare) {
                    few.become(1, a, NONE);
                    return;
                }
            }
            for (int a = 0; a < told.things; a++) {
                for (int b = a + 1; b < told.things && (bits >> a & 1) != 0; b++) {
                    if ((bits >> b & 1) != 0 && told.upkeep(a) + told.upkeep(b) >= spare) {
                        few.become(2, a, b);
                        return;
                    }
                }
            }
            few.become(NONE, NONE, NONE);
        }
    }

    /** What was seen of things. */
    private static final class Sights {
        private final int[] things = new int[SIGHTS], outcomes = new int[SIGHTS];
        int length = 0;

        boolean note(int thing, int outcome) {
            if (length >= SIGHTS) {
                return false;
            }
            things[length] = thing;
            outcomes[length] = outcome;
            length++;
            return true;
        }

        boolean allSo(Night night, Play play) {
            for (int i = 0; i < length; i++) {
                if (things[i] >= night.things || play.outcome(things[i]) != outcomes[i]) {
                    return false;
                }
            }
            return true;
        }
    }

    /** What may have been, by what was seen. */
    private static final class Guesses {
        private final Valley valley;
        private final Night told, trial;
        private final Play play;
        private final Sights sights;
        /** The cells that were sought last, as bits. */
        private long whence = 0;
        private final int[] tally = new int[THINGS * OUTCOMES];

        Guesses(Valley v, Night asTold, Night scratch, Play p, Sights s) {
            valley = v;
            told = asTold;
            trial = scratch;
            play = p;
            sights = s;
        }

        private boolean comesOut() {
            if (sights.length == 0) {
                return true;
            }
            play.playAll(trial);
            return sights.allSo(trial, play);
        }

        int neverBits() {
            int bits = 0;
            trial.becomes(told);
            for (int r = 0; r < trial.rings; r++) {
                trial.blown[r] = NEVER_BLOWN;
                if (comesOut()) {
                    bits |= 1 << r;
                }
                trial.blown[r] = told.blown[r];
            }
            return bits;
        }

        void seekWhence(int r) {
            whence = 0;
            trial.becomes(told);
            for (int cell = 0; cell < valley.cells; cell++) {
                trial.from[r] = cell;
                if (comesOut()) {
                    whence |= 1L << cell;
                }
            }
        }

        int pickWhence(int i) {
            if (i == NONE) {
                return Long.bitCount(whence);
            }
            int passed = 0;
            for (int cell = 0; cell < CELLS; cell++) {
                if ((whence >> cell & 1) != 0) {
                    if (passed == i) {
                        return cell;
                    }
                    passed++;
                }
            }
            return NONE;
        }

        int paceBits() {
            int bits = 0;
            trial.becomes(told);
            for (int widens = 1; widens <= MOST_WIDENS; widens++) {
                trial.widens = widens;
                if (comesOut()) {
                    bits |= 1 << widens;
                }
            }
            return bits;
        }

        int bestAsk() {
            Arrays.fill(tally, 0);
            trial.becomes(told);
            for (int r = 0; r < trial.rings; r++) {
                trial.blown[r] = NEVER_BLOWN;
                play.playAll(trial);
                if (sights.allSo(trial, play)) {
                    tallyOutcomes();
                }
                trial.blown[r] = told.blown[r];
            }
            int best = NONE, least = RINGS + 1;
            for (int t = 0; t < trial.things; t++) {
                int greatest = greatestTally(t);
                if (greatest < least) {
                    least = greatest;
                    best = t;
                }
            }
            return best;
        }

        private void tallyOutcomes() {
            for (int t = 0; t < trial.things; t++) {
                int i = t * OUTCOMES + play.outcome(t);
                if (i >= 0 && i < tally.length) {
                    tally[i]++;
                }
            }
        }

        private int greatestTally(int t) {
            int greatest = 0;
            for (int i = t * OUTCOMES; i < (t + 1) * OUTCOMES && i < tally.length; i++) {
                greatest = Math.max(greatest, tally[i]);
            }
            return greatest;
        }
    }

    /** Calms by chance, evenings by a seed. */
    private static final class Chances {
        private final Valley valley;
        private final Night told, trial;
        private final Play play;
        /** The steps whose calm is by chance and would change something. */
        private final int[] windy = new int[LAST_STILL + 1];
        private int windySteps = 0;
        /** At thing * FOLK + whom: of 16 to the power of windySteps, by how much it is bound to whom. */
        private final long[] weights = new long[THINGS * FOLK];
        private int seed = 0;
        int lotsBound = 0, lotsBroken = 0;

        Chances(Valley v, Night asTold, Night scratch, Play p) {
            valley = v;
            told = asTold;
            trial = scratch;
            play = p;
        }

        void weigh(int c, int last) {
            findWindy(last);
            Arrays.fill(weights, 0);
            trial.becomes(told);
            for (int calms = 0; calms < 1 << windySteps; calms++) {
                int calm = Integer.bitCount(calms);
                long weight = power(c, calm) * power(SIXTEENTHS - c, windySteps - calm);
                if (weight > 0) {
                    weighCalms(calms, weight);
                }
            }
        }

        /** A calm changes nothing where there is no wind, nor up to the step in which the first ring is blown. */
        private void findWindy(int last) {
            int first = STEPS;
            for (int r = 0; r < told.rings; r++) {
                first = Math.min(first, told.blown[r]);
            }
            windySteps = 0;
            for (int step = 0; step <= last && step <= LAST_STILL; step++) {
                if (step > first && told.wind[step] != NONE && windySteps < windy.length) {
                    windy[windySteps] = step;
                    windySteps++;
                }
            }
        }

        private static long power(long x, int n) {
            long product = 1;
            for (int i = 0; i < n; i++) {
                product *= x;
            }
            return product;
        }

        private void weighCalms(int calms, long weight) {
            for (int i = 0; i < windySteps; i++) {
                int step = windy[i];
                trial.wind[step] = (calms >> i & 1) != 0 ? NONE : told.wind[step];
            }
            play.playAll(trial);
            for (int t = 0; t < trial.things; t++) {
                int i = t * FOLK + play.boundTo[t];
                if (play.boundTo[t] != NONE && i >= 0 && i < weights.length) {
                    weights[i] += weight;
                }
            }
        }

        private long weightOf(int t, int whom) {
            int i = t * FOLK + whom;
            return i >= 0 && i < weights.length ? weights[i] : 0;
        }

        /** By how many halvings the fraction comes to its lowest terms: what is below is a power of 2. */
        private int halvings(long weight) {
            int n = 0;
            while (n < 4 * windySteps && (weight >> n & 1) == 0) {
                n++;
            }
            return n;
        }

        long above(int t, int whom) {
            long weight = weightOf(t, whom);
            return weight >> halvings(weight);
        }

        long below(int t, int whom) {
            return 1L << 4 * windySteps - halvings(weightOf(t, whom));
        }

        void playLots(int start, int n) {
            seed = start;
            trial.becomes(told);
            trial.rings = 0;
            for (int r = 0; r < n && valley.cells > 0; r++) {
                int from = lot(valley.cells), way = lot(WAYS), breath = lot(MOST_BREATH) + 1;
                trial.addRing(r, from, way, breath, 0);
            }
            play.playAll(trial);
            lotsBound = play.boundThings;
            lotsBroken = play.brokenRings(trial);
        }

        private int lot(int m) {
            seed = 1103515245 * seed + 12345;
            return m > 0 ? (seed >>> 16) % m : 0;
        }
    }

    /** A row of a form; lost: no form. */
    private static final class Sheet {
        private int form = NONE;
        int length = 0;
        final int[] items = new int[MOST_ITEMS];

        boolean isLost() {
            return form == NONE;
        }

        void renew(int as, int n) {
            form = as;
            length = Math.max(0, Math.min(n, MOST_ITEMS));
            Arrays.fill(items, 0);
        }

        /** The number of the finding if item i is treated as of a form; 0: none. */
        int trouble(int as, int i) {
            return isLost() ? NULL_FOUND : form != as ? CAST_FOUND : hasItem(i) ? 0 : INDEX_FOUND;
        }

        private boolean hasItem(int i) {
            return i >= 0 && i < length;
        }

        boolean hasRun(int i, int n) {
            return i >= 0 && n >= 0 && i <= length && n <= length - i;
        }

        int item(int i) {
            return hasItem(i) ? items[i] : 0;
        }

        void put(int i, int v) {
            if (hasItem(i)) {
                items[i] = form == 0 ? (byte) v : form == 1 ? (short) v : v;
            }
        }
    }
}
