import java.lang.reflect.Method;
import java.util.ArrayList;
import java.util.Arrays;
import java.util.List;

/**
 * "Refusals, the first that fits ... They change nothing (FINDINGS but count() 8)": each refused call on an empty, a usual
 * and a full object, with what all other calls answer behind it; and of each number the least and the greatest that may be.
 */
public final class RefusalTest {
    private static final int NONE = Due.NONE, BAD = Due.BAD, NOT = Due.NOT, FULL = Due.FULL;
    private static final int LEAST = Due.LEAST, MOST = Due.MOST;
    /** Of an argument that is not bounded. */
    private static final int[] ANY = {LEAST, MOST};
    private static final int[] TEXT = {0, 2}, BYTE = {0, 255}, STEP = {0, 19}, CELL = {0, 35}, WAY = {0, 3}, BREATH = {1, 9};
    private static final int[] WHOM = {0, 3}, SHEET = {0, 3}, FORM = {0, 2}, BIT = {0, 1};
    private static final int EMPTY = 0, USUAL = 1, ALL_FULL = 2;
    private static final String[] STATES = {"empty", "usual", "full"};
    private static final int[] RINGS = {0, 3, 8}, THINGS = {0, 4, 8};

    private static SmokeRings made(int state) {
        if (state == EMPTY) return new SmokeRings();
        SmokeRings x;
        if (state == USUAL) {
            x = Due.with("...#;....", "021p;051b;032t;391p", ".e.s", Due.blown(0, 0, 1, 2, 1), Due.blown(1, 4, 1, 1, 3), Due.blown(3, 6, 3, 9, 0));
            x.seen(0, 1);
            x.seen(3, 4);
        } else {
            x = Due.with("......;..#...;......;......;.#....;......", "011p;073b;132t;161p;351p;282b;019t;395p", ".nesw.nnees.wwss.new");
            for (int r = 0; r < 8; r++) {
                x.blow(r / 2, r * 5 % 36, r % 4, 1 + r, r % 4);
                x.seen(7, 4);
            }
        }
        x.widens(state);
        Due.fill(x, 0, 0, 5, -6, 7);
        Due.fill(x, 1, 1, 500, 2, 3, 4, 5, 6);
        Due.fill(x, 2, 2, 100000);
        return x;
    }

    /** What the calls answer that tell of it, but for the latest finding, which telling of the sheets changes. */
    private static long[] told(SmokeRings x) {
        List<Long> all = new ArrayList<>();
        for (int what = 0; what < 8; what++) all.add((long) x.count(what));
        int widens = x.widens(1);
        all.add((long) widens);
        x.widens(widens);
        all.add(x.digest());
        for (int s = 0; s < 4; s++) {
            for (int form = 0; form < 3; form++) {
                for (int i = 0; i < 7; i++) all.add((long) x.get(s, form, i));
            }
        }
        return all.stream().mapToLong(Long::longValue).toArray();
    }

    private static long call(SmokeRings x, String name, int... args) {
        for (Method m : SmokeRings.class.getDeclaredMethods()) {
            if (!m.getName().equals(name) || m.getParameterCount() != args.length) continue;
            try {
                Object[] boxed = Arrays.stream(args).boxed().toArray();
                return ((Number) m.invoke(x, boxed)).longValue();
            } catch (ReflectiveOperationException e) {
                throw new IllegalStateException(name + Arrays.toString(args), e);
            }
        }
        throw new IllegalStateException("no method " + name);
    }

    private static void dueRefused(int state, long answer, String name, int... args) {
        dueFound(state, answer, answer <= Due.NULL && answer >= Due.SIZE ? (int) (-10 - answer) : 0, name, args);
    }

    /** A refusal that leaves a finding of a number; 0: none. */
    private static void dueFound(int state, long answer, int finding, String name, int... args) {
        SmokeRings x = made(state);
        long[] ahead = told(x);
        String told = name + Arrays.toString(args) + " of the " + STATES[state] + " one";
        if (finding > 0) leaveFinding(x, finding % 5 + 1);
        int was = x.count(8);
        Due.due(told, call(x, name, args), answer);
        Due.due("count(8) behind " + told, x.count(8), finding > 0 ? finding : was);
        long[] behind = told(x);
        for (int i = 0; i < ahead.length; i++) Due.due("answer " + i + " behind " + told, behind[i], ahead[i]);
        Due.due(told + " again", call(x, name, args), answer);
    }

    /** Makes a finding of a number without a change. */
    private static void leaveFinding(SmokeRings x, int finding) {
        if (finding == 5 || x.count(2) == 0) {
            x.sheet(0, 0, -1);
        } else if (finding == 1) {
            x.lose(3);
        } else if (finding == 4) {
            x.copy(0, 0, 1, 0, 0);
        } else {
            x.lay(0, finding == 2 ? 0 : 1, -1, 0);
        }
    }

    private static void dueTaken(int state, String name, int... args) {
        long answer = call(made(state), name, args);
        boolean refused = answer == (name.equals("still") ? Long.MIN_VALUE + 2 : BAD);
        Due.due(name + Arrays.toString(args) + " of the " + STATES[state] + " one is refused", refused ? 1 : 0, 0);
    }

    /** Each number just inside and just outside, the others inside; then all of them outside. */
    private static void bounds(int state, String name, int[]... ranges) {
        Due.sentence(name + ": BAD -2 (a number not as told, no such thing), the " + STATES[state] + " one");
        long bad = name.equals("still") ? Long.MIN_VALUE + 2 : name.equals("get") ? LEAST : BAD;
        for (int edge = 0; edge < 2; edge++) {
            int[] inside = new int[ranges.length];
            boolean there = true;
            for (int i = 0; i < ranges.length; i++) {
                inside[i] = ranges[i] == ANY ? 0 : ranges[i][edge];
                there = there && ranges[i][0] <= ranges[i][1];
            }
            if (there && !name.equals("get")) dueTaken(state, name, inside);
            if (!there) dueRefused(state, bad, name, inside);
            for (int i = 0; i < ranges.length; i++) {
                if (ranges[i] == ANY) continue;
                int[] beyond = {ranges[i][0] - 1, ranges[i][1] + 1, LEAST, MOST};
                for (int v : beyond) {
                    int[] args = inside.clone();
                    args[i] = v;
                    dueRefused(state, bad, name, args);
                }
            }
        }
        int[] args = new int[ranges.length];
        for (int i = 0; i < args.length; i++) args[i] = i % 2 == 0 ? LEAST : MOST;
        dueRefused(state, bad, name, args);
    }

    private static void allBounds(int state) {
        int[] ring = {0, RINGS[state] - 1}, thing = {0, THINGS[state] - 1};
        bounds(state, "type", TEXT, BYTE);
        bounds(state, "wipe", TEXT);
        bounds(state, "undo", TEXT);
        bounds(state, "fault", TEXT);
        bounds(state, "cell", CELL);
        bounds(state, "thing", thing, new int[] {0, 2});
        bounds(state, "wind", STEP);
        bounds(state, "widens", new int[] {1, 4});
        bounds(state, "blow", STEP, CELL, WAY, BREATH, WHOM);
        bounds(state, "ring", ring, new int[] {0, 4});
        bounds(state, "read", SHEET);
        bounds(state, "at", STEP, ring, new int[] {0, 3});
        bounds(state, "bound", thing, new int[] {0, 2});
        bounds(state, "wed", WHOM, BIT);
        bounds(state, "throughs", BIT);
        bounds(state, "breath", ring, thing);
        bounds(state, "aim", ring, new int[] {0, 2});
        bounds(state, "stand", thing);
        bounds(state, "hush", thing, new int[] {NONE, 1});
        bounds(state, "calm", BIT);
        bounds(state, "free", WHOM, new int[] {0, 99}, new int[] {NONE, 1});
        bounds(state, "seen", new int[] {0, 7}, new int[] {0, 4});
        bounds(state, "whence", ring, new int[] {NONE, 35});
        bounds(state, "still", new int[] {0, 16}, new int[] {0, 9}, thing, WHOM, BIT);
        bounds(state, "evening", ANY, new int[] {1, 8}, BIT);
        bounds(state, "lose", SHEET);
        bounds(state, "lay", SHEET, FORM, ANY, ANY);
        bounds(state, "get", SHEET, FORM, ANY);
        bounds(state, "copy", SHEET, ANY, SHEET, ANY, ANY);
        bounds(state, "write", ring, SHEET);
        bounds(state, "count", new int[] {0, 8});
        sheetBounds(state);
    }

    private static void sheetBounds(int state) {
        Due.sentence("sheet: BAD: SHEET, FORM, above 60; SIZE");
        for (int n : new int[] {0, 60, -1, LEAST, 61, MOST}) {
            for (int v : new int[] {-1, 4, LEAST, MOST}) dueRefused(state, BAD, "sheet", v, 0, n);
            for (int v : new int[] {-1, 3, LEAST, MOST}) dueRefused(state, BAD, "sheet", 0, v, n);
            for (int s : new int[] {0, 3}) {
                for (int form : new int[] {0, 2}) {
                    if (n > 60) dueRefused(state, BAD, "sheet", s, form, n);
                    else if (n < 0) dueRefused(state, Due.SIZE, "sheet", s, form, n);
                    else dueTaken(state, "sheet", s, form, n);
                }
            }
        }
    }

    private static void others() {
        Due.sentence("NOT -3 (as told): undo, back");
        for (int text = 0; text < 3; text++) dueRefused(EMPTY, NOT, "undo", text);
        dueRefused(EMPTY, NOT, "back");
        Due.sentence("FULL -4: type, blow, seen");
        for (int text = 0; text < 3; text++) {
            for (int b : new int[] {0, '.', ';', 'n', 255}) dueRefused(ALL_FULL, FULL, "type", text, b);
        }
        dueRefused(ALL_FULL, FULL, "blow", 0, 0, 0, 1, 0);
        dueRefused(ALL_FULL, FULL, "blow", 19, 35, 3, 9, 3);
        dueRefused(ALL_FULL, FULL, "seen", 0, 0);
        dueRefused(ALL_FULL, FULL, "seen", 7, 4);
        for (int state = EMPTY; state <= ALL_FULL; state++) findings(state);
    }

    private static void findings(int state) {
        Due.sentence("1 NULL: the SHEET is LOST");
        int last = RINGS[state] - 1;
        for (int s = state == EMPTY ? 0 : 3; s < 4; s++) {
            dueRefused(state, Due.NULL, "lose", s);
            dueRefused(state, Due.NULL, "read", s);
            if (last >= 0) dueRefused(state, Due.NULL, "write", last, s);
            for (int form = 0; form < 3; form++) {
                dueRefused(state, Due.NULL, "lay", s, form, 0, 1);
                dueRefused(state, Due.NULL, "lay", s, form, -1, 1);
                dueFound(state, LEAST, 1, "get", s, form, 0);
                dueFound(state, LEAST, 1, "get", s, form, -1);
            }
            for (int t = 0; t < 4; t++) {
                dueRefused(state, Due.NULL, "copy", s, 0, t, 0, 0);
                dueRefused(state, Due.NULL, "copy", t, -1, s, 0, 61);
            }
        }
        if (state == EMPTY) return;
        int[] sizes = {3, 6, 1};
        for (int s = 0; s < 3; s++) {
            Due.sentence("2 INDEX: there is no such item");
            for (int i : new int[] {-1, sizes[s], LEAST, MOST}) {
                dueRefused(state, Due.INDEX, "lay", s, s, i, 1);
                dueFound(state, LEAST, 2, "get", s, s, i);
                dueRefused(state, Due.INDEX, "copy", s, i, s, 0, 1);
                dueRefused(state, Due.INDEX, "copy", s, 0, s, i, 1);
            }
            dueRefused(state, Due.INDEX, "copy", s, 0, s, 0, sizes[s] + 1);
            dueRefused(state, Due.INDEX, "copy", s, 0, s, 0, -1);
            dueRefused(state, Due.INDEX, "copy", s, sizes[s] + 1, s, 0, 0);
            dueRefused(state, Due.INDEX, "copy", s, 0, s, sizes[s] + 1, 0);
            Due.sentence("3 CAST: it has another FORM; 4 STORE: unlike FORMS");
            for (int other = 0; other < 3; other++) {
                if (other == s) continue;
                dueRefused(state, Due.CAST, "lay", s, other, 0, 1);
                dueRefused(state, Due.CAST, "lay", s, other, -1, 1);
                dueFound(state, LEAST, 3, "get", s, other, 0);
                dueFound(state, LEAST, 3, "get", s, other, -1);
                dueRefused(state, Due.STORE, "copy", s, 0, other, 0, 1);
                dueRefused(state, Due.STORE, "copy", s, -1, other, -1, -1);
            }
        }
    }

    private static void bytesAsTheyWere() {
        Due.sentence("They change nothing: the bytes of a text, one by one undone");
        String[] texts = {"......;..#...;......;......;.#....;......", "011p;073b;132t;161p;351p;282b;019t;395p", ".nesw.nnees.wwss.new"};
        for (int text = 0; text < 3; text++) {
            SmokeRings x = made(ALL_FULL);
            x.type(text, 'x');
            x.type(text, 256);
            x.type(3, 'x');
            x.blow(0, 0, 0, 1, 0);
            for (int n = texts[text].length(); n > 0; n--) {
                Due.due("fault(" + text + ") of " + n, x.fault(text), faultAnew(text, texts[text].substring(0, n)));
                Due.due("undo(" + text + ")", x.undo(text), n - 1);
            }
            Due.due("undo(" + text + ") of none", x.undo(text), NOT);
        }
    }

    private static int faultAnew(int text, String s) {
        SmokeRings x = new SmokeRings();
        Due.type(x, text, s);
        return x.fault(text);
    }

    public static void main(String[] args) {
        for (int state = EMPTY; state <= ALL_FULL; state++) allBounds(state);
        others();
        bytesAsTheyWere();
        Due.finish();
    }
}
