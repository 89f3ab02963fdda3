/** The edges of rings as they are told and as they go: the steps of Terms, Terms 2, and promises 10 to 20. */
public final class RingEdgesTest {
    private static final int NONE = Due.NONE, BAD = Due.BAD, NOT = Due.NOT, FULL = Due.FULL;
    private static final int WAITS = Due.WAITS, GOES = Due.GOES, FELL = Due.FELL, BROKEN = Due.BROKEN, FADED = Due.FADED;
    private static final int N = Due.N, E = Due.E, S = Due.S, W = Due.W;
    private static final int[] LEAST_RING = {0, 0, 0, 1, 0}, MOST_RING = {19, 35, 3, 9, 3};
    private static final String[] PARTS = {"a STEP", "a CELL (0 to 35)", "a way (0 n, 1 e, 2 s, 3 w)", "a BREATH (1 to 9)", "WHOM (0 to 3)"};
    private static final String[] WAYS = {"n", "e", "s", "w"};

    private static int blow(SmokeRings x, int... r) {
        return x.blow(r[0], r[1], r[2], r[3], r[4]);
    }

    private static int[] put(int[] ring, int part, int v) {
        int[] r = ring.clone();
        r[part] = v;
        return r;
    }

    // ---- rings as they are told

    private static void partsOfRings() {
        for (int part = 0; part < 5; part++) {
            Due.sentence("blown in a STEP, from a CELL, a way, with a BREATH, by WHOM: " + PARTS[part]);
            int[] may = {LEAST_RING[part], MOST_RING[part]};
            int[] mayNot = {may[0] - 1, may[1] + 1, Due.LEAST, Due.MOST, may[0] - 256, may[0] + 256, may[1] + 65536};
            for (int[] base : new int[][] {LEAST_RING, MOST_RING, {7, 17, 1, 5, 2}}) {
                SmokeRings x = new SmokeRings();
                for (int v : mayNot) {
                    Due.due("blow with " + v, blow(x, put(base, part, v)), BAD);
                    Due.due("count(5) behind BAD", x.count(5), 0);
                }
                for (int v : may) {
                    int n = x.count(5);
                    Due.due("blow with " + v, blow(x, put(base, part, v)), n + 1);
                    for (int what = 0; what < 5; what++) {
                        Due.due("ring(" + n + ", " + what + ")", x.ring(n, what), put(base, part, v)[what]);
                    }
                }
            }
        }
    }

    private static void rowOfRings() {
        Due.sentence("RINGS, 8 at most (0 on): how many; BAD; FULL");
        SmokeRings x = new SmokeRings();
        for (int n = 0; n < 8; n++) {
            Due.due("ring(" + n + ", 0) of " + n, x.ring(n, 0), BAD);
            Due.due("at(0, " + n + ", 0) of " + n, x.at(0, n, 0), BAD);
            Due.due("blow", x.blow(n, 35 - n, n % 4, n + 1, n % 4), n + 1);
            Due.due("ring(" + n + ", 0)", x.ring(n, 0), n);
            Due.due("at(0, " + n + ", 3)", x.at(0, n, 3), n + 1);
        }
        Due.due("blow of a ninth", blow(x, LEAST_RING), FULL);
        Due.due("blow of a ninth", blow(x, MOST_RING), FULL);
        for (int part = 0; part < 5; part++) Due.due("blow of a ninth that may not be", blow(x, put(LEAST_RING, part, -1)), BAD);
        Due.due("count(5)", x.count(5), 8);
        for (int n = 0; n < 8; n++) {
            int[] want = {n, 35 - n, n % 4, n + 1, n % 4};
            for (int what = 0; what < 5; what++) Due.due("ring(" + n + ", " + what + ") behind FULL", x.ring(n, what), want[what]);
        }
        for (int r : new int[] {-1, 8, Due.LEAST, Due.MOST}) Due.due("ring(" + r + ", 0)", x.ring(r, 0), BAD);
        for (int what : new int[] {-1, 5, Due.LEAST, Due.MOST}) Due.due("ring(0, " + what + ")", x.ring(0, what), BAD);
        Due.sentence("The last RING is undone: how many are left. NOT: there is none");
        Due.due("back()", x.back(), 7);
        Due.due("ring(7, 0) undone", x.ring(7, 0), BAD);
        Due.due("ring(6, 0)", x.ring(6, 0), 6);
        Due.due("blow behind back()", blow(x, MOST_RING), 8);
        Due.due("ring(7, 0) anew", x.ring(7, 0), 19);
        for (int n = 7; n >= 0; n--) Due.due("back()", x.back(), n);
        Due.due("back() of none", x.back(), NOT);
        Due.due("back() of none, again", x.back(), NOT);
        Due.due("count(5)", x.count(5), 0);
        Due.due("blow behind NOT", blow(x, LEAST_RING), 1);
    }

    // ---- read

    private static int[] items(int n) {
        int[] items = new int[n];
        for (int i = 0; i < n; i++) items[i] = i % 5 == 3 ? 1 + i / 5 % 9 : i % 5 == 1 ? i / 5 : 0;
        return items;
    }

    private static void reading() {
        Due.sentence("RINGS more, from a SHEET: its items, five for each, as many as are whole");
        for (int form = 0; form < 3; form++) {
            for (int n : new int[] {0, 1, 4, 5, 6, 9, 10, 11, 14, 15, 39, 40}) {
                SmokeRings x = new SmokeRings();
                Due.fill(x, form, form, items(n));
                Due.due("read of " + n + " items", x.read(form), n / 5);
                Due.due("count(5)", x.count(5), n / 5);
                for (int r = 0; r < n / 5; r++) Due.due("ring(" + r + ", 1)", x.ring(r, 1), r);
                Due.due("get of the last item, as it was", n > 0 ? x.get(form, form, n - 1) : 0, n > 0 ? items(n)[n - 1] : 0);
            }
        }
        Due.sentence("as long as there is room");
        for (int had = 0; had <= 8; had++) {
            for (int n : new int[] {5, 10, 40, 45, 60}) {
                SmokeRings x = new SmokeRings();
                for (int r = 0; r < had; r++) blow(x, MOST_RING);
                Due.fill(x, 3, 1, items(n));
                int come = Math.min(n / 5, 8 - had);
                Due.due("read of " + n + " items behind " + had, x.read(3), come);
                Due.due("count(5)", x.count(5), had + come);
                if (had > 0) Due.due("ring(" + (had - 1) + ", 0)", x.ring(had - 1, 0), 19);
                if (come > 0) Due.due("ring(" + (had + come - 1) + ", 1)", x.ring(had + come - 1, 1), come - 1);
            }
        }
        for (int part = 0; part < 5; part++) {
            Due.sentence("as long as each may be: " + PARTS[part]);
            for (int v : new int[] {LEAST_RING[part], MOST_RING[part], LEAST_RING[part] - 1, MOST_RING[part] + 1, Due.LEAST, Due.MOST, 256, 65536}) {
                boolean may = v >= LEAST_RING[part] && v <= MOST_RING[part];
                for (int place = 0; place < 3; place++) {
                    int[] items = items(15);
                    items[place * 5 + part] = v;
                    SmokeRings x = new SmokeRings();
                    Due.fill(x, 0, 2, items);
                    Due.due("read with " + v + " at ring " + place, x.read(0), may ? 3 : place);
                    Due.due("count(5)", x.count(5), may ? 3 : place);
                    if (may) Due.due("ring(" + place + ", " + part + ")", x.ring(place, part), v);
                }
            }
        }
        Due.sentence("read: BAD; NULL");
        SmokeRings x = new SmokeRings();
        for (int s = 0; s < 4; s++) {
            Due.due("read(" + s + ")", x.read(s), Due.NULL);
            Due.due("count(8)", x.count(8), 1);
            Due.due("count(5)", x.count(5), 0);
            x.sheet(s, 0, 0);
            Due.due("read(" + s + ") of no items", x.read(s), 0);
        }
        for (int s : new int[] {-1, 4, Due.LEAST, Due.MOST}) Due.due("read(" + s + ")", x.read(s), BAD);
        for (int r = 0; r < 8; r++) blow(x, LEAST_RING);
        x.lose(2);
        Due.due("read(2) of one that is lost, without room", x.read(2), Due.NULL);
        Due.due("read(1) without room", x.read(1), 0);
        Due.sentence("what read brings, plays");
        x = Due.with("..", "001p", "");
        Due.due("missed()", x.missed(), 0);
        Due.fill(x, 0, 0, 0, 0, 0, 1, 3);
        x.read(0);
        Due.dueBound(x, 0, 0, 0, 3);
    }

    // ---- moves

    private static void breathAndWind() {
        Due.sentence("by one CELL its way, as long as it has BREATH, which is 1 less then");
        for (int breath = 1; breath <= 9; breath++) {
            SmokeRings x = Due.with("......", "", "", Due.blown(0, 0, E, breath, 0));
            for (int step = 0; step < 6; step++) {
                int moved = Math.min(Math.min(step, breath), 5);
                Due.dueAt(x, step, 0, GOES, moved, 1 + step / 2, breath - moved);
            }
            boolean over = breath > 5;
            Due.dueAt(x, 6, 0, over ? BROKEN : GOES, Math.min(breath, 5), over ? 3 : 4, Math.max(0, breath - 6));
            Due.dueAt(x, 19, 0, over ? BROKEN : FADED, Math.min(breath, 5), over ? 3 : 10, Math.max(0, breath - 6));
        }
        String open = "...;...;...";
        int[] to = {1, 5, 7, 3};
        for (int way = 0; way < 4; way++) {
            Due.sentence("a way (0 n, 1 e, 2 s, 3 w)");
            SmokeRings x = Due.with(open, "", "", Due.blown(3, 4, way, 1, 0));
            Due.dueAt(x, 2, 0, WAITS, NONE, 0, 1);
            Due.dueAt(x, 3, 0, GOES, 4, 1, 1);
            Due.dueAt(x, 4, 0, GOES, to[way], 1, 0);
            Due.dueAt(x, 5, 0, GOES, to[way], 2, 0);
            Due.sentence("then by one CELL as THE WIND drives");
            x = Due.with(open, "", "....." + WAYS[way], Due.blown(3, 3, E, 1, 0));
            Due.dueAt(x, 4, 0, GOES, 4, 1, 0);
            Due.dueAt(x, 5, 0, GOES, to[way], 2, 0);
            Due.dueAt(x, 6, 0, GOES, to[way], 2, 0);
            x = Due.with(open, "", "...." + WAYS[way], Due.blown(3, 3, E, 9, 0));
            Due.dueAt(x, 4, 0, GOES, to[way], 1, 8);
            Due.sentence("first RINGS that GO move; then RINGS of that STEP are blown: they do not move in it");
            x = Due.with(open, "", WAYS[way] + ".", Due.blown(0, 4, way, 9, 0));
            Due.dueAt(x, 0, 0, GOES, 4, 1, 9);
            x = Due.with(open, "", "..................." + WAYS[way], Due.blown(19, 4, way, 9, 0), Due.blown(18, 4, way, 2, 0));
            Due.dueAt(x, 19, 0, GOES, 4, 1, 9);
            Due.dueAt(x, 19, 1, BROKEN, to[way], 1, 1);
        }
        Due.sentence("none on later ones: wind of 20 STEPS drives in STEP 19, of 19 not");
        SmokeRings x = Due.with("..", "", "...................e", Due.blown(18, 1, W, 1, 0));
        Due.dueAt(x, 19, 0, GOES, 1, 1, 0);
        x.undo(2);
        Due.dueAt(x, 19, 0, GOES, 0, 1, 0);
    }

    private static void wallsAndEdges() {
        for (int way = 0; way < 4; way++) {
            int row = way == N ? 0 : way == S ? 2 : 1, column = way == W ? 0 : way == E ? 2 : 1;
            int cell = row * 3 + column;
            Due.sentence("beyond the edge, it is BROKEN: by its own move");
            SmokeRings x = Due.with("...;...;...", "", "", Due.blown(0, cell, way, 5, 0));
            Due.dueAt(x, 0, 0, GOES, cell, 1, 5);
            Due.dueAt(x, 1, 0, BROKEN, cell, 1, 4);
            Due.dueAt(x, 19, 0, BROKEN, cell, 1, 4);
            Due.sentence("beyond the edge, it is BROKEN: by the wind");
            x = Due.with("...;...;...", "", "." + WAYS[way], Due.blown(0, 4, way, 1, 0));
            Due.dueAt(x, 1, 0, BROKEN, cell, 1, 0);
            x = Due.with("...;...;...", "", ".." + WAYS[way], Due.blown(0, 4, way, 1, 0));
            Due.dueAt(x, 1, 0, GOES, cell, 1, 0);
            Due.dueAt(x, 2, 0, BROKEN, cell, 1, 0);
            Due.sentence("into a wall it is BROKEN: by its own move, from the cell it has come to");
            String walled = "...;...;...".substring(0, cell + row) + "#" + "...;...;...".substring(cell + row + 1);
            x = Due.with(walled, "", "", Due.blown(0, 4, way, 5, 0));
            Due.dueAt(x, 0, 0, GOES, 4, 1, 5);
            Due.dueAt(x, 1, 0, BROKEN, 4, 1, 4);
            Due.sentence("into a wall it is BROKEN: by the wind");
            int opposite = way ^ 2, behind = 8 - cell;
            x = Due.with(walled, "", "." + WAYS[way], Due.blown(0, behind, way, 5, 0));
            Due.dueAt(x, 1, 0, BROKEN, 4, 1, 4);
            x = Due.with(walled, "", "." + WAYS[opposite], Due.blown(0, behind, way, 5, 0));
            Due.dueAt(x, 1, 0, GOES, behind, 1, 4);
            Due.sentence("as it is BROKEN by its own move, the wind drives it no more");
            x = Due.with(walled, "", "." + WAYS[opposite], Due.blown(0, 4, way, 5, 0));
            Due.dueAt(x, 1, 0, BROKEN, 4, 1, 4);
        }
        Due.sentence("beyond the edge: a row's end has no way to the next row");
        SmokeRings x = Due.with("...;...;...", "", "", Due.blown(0, 2, E, 1, 0), Due.blown(0, 5, E, 1, 0), Due.blown(0, 8, E, 1, 0),
            Due.blown(0, 0, W, 1, 0), Due.blown(0, 3, W, 1, 0), Due.blown(0, 6, W, 1, 0));
        int[] from = {2, 5, 8, 0, 3, 6};
        for (int r = 0; r < 6; r++) Due.dueAt(x, 1, r, BROKEN, from[r], 1, 0);
        Due.sentence("first its own way, then as THE WIND drives");
        x = Due.with("..;#.", "", ".s", Due.blown(0, 0, E, 2, 0));
        Due.dueAt(x, 1, 0, GOES, 3, 1, 1);
        x = Due.with("..;.#", "", ".s", Due.blown(0, 0, E, 2, 0));
        Due.dueAt(x, 1, 0, BROKEN, 1, 1, 1);
        Due.sentence("edges are those of the valley as it is now");
        x = Due.with("..", "", "", Due.blown(0, 0, E, 2, 0));
        Due.dueAt(x, 2, 0, BROKEN, 1, 1, 0);
        Due.type(x, 0, ".");
        Due.dueAt(x, 2, 0, GOES, 2, 2, 0);
        x.undo(0);
        Due.dueAt(x, 2, 0, BROKEN, 1, 1, 0);
    }

    private static void blownNowhere() {
        Due.sentence("BROKEN, if there is none, or it is a wall");
        SmokeRings x = Due.with("..;.#", "", "nesw", Due.blown(2, 2, N, 9, 0), Due.blown(2, 3, N, 8, 0), Due.blown(2, 4, N, 7, 0), Due.blown(2, 35, N, 6, 0));
        Due.dueAt(x, 1, 1, WAITS, NONE, 0, 8);
        Due.dueAt(x, 1, 2, WAITS, NONE, 0, 7);
        Due.dueAt(x, 2, 0, GOES, 2, 1, 9);
        for (int step : new int[] {2, 3, 19}) {
            Due.dueAt(x, step, 1, BROKEN, 3, 1, 8);
            Due.dueAt(x, step, 2, BROKEN, NONE, 1, 7);
            Due.dueAt(x, step, 3, BROKEN, NONE, 1, 6);
        }
        Due.sentence("the CELL of one blown from no CELL is NONE, also without a valley");
        x.wipe(0);
        for (int r = 0; r < 4; r++) Due.dueAt(x, 2, r, BROKEN, NONE, 1, 9 - r);
        Due.sentence("from a CELL (0 to 35): the last one");
        x = Due.with("......;......;......;......;......;......", "", "", Due.blown(0, 35, N, 1, 0), Due.blown(0, 0, S, 1, 0));
        Due.dueAt(x, 0, 0, GOES, 35, 1, 1);
        Due.dueAt(x, 1, 0, GOES, 29, 1, 0);
        Due.dueAt(x, 1, 1, GOES, 6, 1, 0);
    }

    private static void widths() {
        Due.sentence("Its WIDTH is 1, and 1 more for each WIDENS STEPS (whole) since it was blown; with more than 9 it has FADED");
        for (int widens = 1; widens <= 4; widens++) {
            for (int from = 0; from < 20; from++) {
                SmokeRings x = Due.with("..", "", "", Due.blown(from, 0, E, 1, 0));
                x.widens(widens);
                for (int step = 0; step < 20; step++) {
                    int width = step < from ? 0 : Math.min(10, 1 + (step - from) / widens);
                    int what = step < from ? WAITS : width > 9 ? FADED : GOES;
                    Due.dueAt(x, step, 0, what, step < from ? NONE : step == from ? 0 : 1, width, step > from ? 0 : 1);
                }
            }
        }
        Due.sentence("of one that FADED: the CELL as it was then, its WIDTH that by which it did, 10");
        SmokeRings x = Due.with("...", "", ".wwwwwwww", Due.blown(0, 0, E, 9, 0));
        x.widens(1);
        Due.dueAt(x, 8, 0, GOES, 0, 9, 1);
        Due.dueAt(x, 9, 0, FADED, 1, 10, 0);
        Due.dueAt(x, 19, 0, FADED, 1, 10, 0);
        Due.sentence("RINGS that GO move first: it may be BROKEN in the STEP in which it would have FADED");
        x = Due.with("..", "", ".........e", Due.blown(0, 0, E, 1, 0));
        x.widens(1);
        Due.dueAt(x, 8, 0, GOES, 1, 9, 0);
        Due.dueAt(x, 9, 0, BROKEN, 1, 9, 0);
    }

    // ---- meetings

    private static void meetings() {
        Due.sentence("Then all that GO, on one CELL and of one WIDTH, two or more, are BROKEN");
        for (int n = 1; n <= 8; n++) {
            SmokeRings x = Due.with("..", "", "");
            for (int r = 0; r < n; r++) x.blow(5, 0, E, 1 + r, 0);
            x.blow(5, 1, W, 9, 0);
            for (int r = 0; r < n; r++) Due.dueAt(x, 5, r, n > 1 ? BROKEN : GOES, 0, 1, 1 + r);
            if (n < 8) Due.dueAt(x, 5, n, GOES, 1, 1, 9);
            Due.due("throughs(0)", x.throughs(0), 0);
            Due.due("throughs(1)", x.throughs(1), NONE);
        }
        Due.sentence("of one that is BROKEN: the CELL from which it would have gone, its WIDTH as it was last");
        SmokeRings x = Due.with("...", "", "", Due.blown(1, 0, E, 5, 0), Due.blown(1, 2, W, 4, 0));
        x.widens(1);
        for (int step : new int[] {2, 3, 19}) {
            Due.dueAt(x, step, 0, BROKEN, 1, 2, 4);
            Due.dueAt(x, step, 1, BROKEN, 1, 2, 3);
        }
        Due.sentence("on one CELL: not those that change places");
        x = Due.with("..", "", "", Due.blown(1, 0, E, 1, 0), Due.blown(1, 1, W, 1, 0));
        Due.dueAt(x, 2, 0, GOES, 1, 1, 0);
        Due.dueAt(x, 2, 1, GOES, 0, 1, 0);
        Due.sentence("of one WIDTH: in the STEP ahead they differ by one, or not yet");
        x = Due.with("..", "", "", Due.blown(0, 1, W, 1, 0), Due.blown(2, 1, W, 1, 0));
        Due.dueAt(x, 3, 0, GOES, 0, 2, 0);
        Due.dueAt(x, 3, 1, GOES, 0, 1, 0);
        x = Due.with("..", "", "", Due.blown(0, 1, W, 1, 0), Due.blown(1, 1, W, 1, 0));
        Due.dueAt(x, 1, 0, GOES, 0, 1, 0);
        Due.dueAt(x, 2, 0, GOES, 0, 2, 0);
        Due.dueAt(x, 3, 0, BROKEN, 0, 2, 0);
        Due.dueAt(x, 3, 1, BROKEN, 0, 2, 0);
        Due.due("throughs(0)", x.throughs(0), 1);
        Due.due("throughs(1)", x.throughs(1), 2);
        notThoseThatGoNoMore();
    }

    private static void notThoseThatGoNoMore() {
        Due.sentence("all that GO: not one that FELL in a STEP ahead");
        SmokeRings x = Due.with("..", "001p", "", Due.blown(0, 0, E, 1, 0), Due.blown(1, 0, E, 1, 1), Due.blown(3, 0, E, 1, 1));
        Due.dueAt(x, 19, 0, FELL, 0, 1, 1);
        Due.dueAt(x, 1, 1, GOES, 0, 1, 1);
        Due.due("at(3, 2, 0)", x.at(3, 2, 0), GOES);
        Due.due("throughs(1)", x.throughs(1), 4);
        Due.sentence("all that GO: not one that is BROKEN");
        x = Due.with(".", "", "", Due.blown(0, 0, E, 1, 0), Due.blown(1, 0, E, 1, 1), Due.blown(4, 0, E, 1, 1));
        Due.dueAt(x, 1, 0, BROKEN, 0, 1, 0);
        Due.dueAt(x, 1, 1, GOES, 0, 1, 1);
        Due.due("throughs(0)", x.throughs(0), 0);
        Due.sentence("all that GO: not one that has FADED, in that STEP either");
        x = Due.with("..", "", "", Due.blown(0, 1, W, 1, 0), Due.blown(9, 0, E, 1, 0));
        x.widens(1);
        Due.dueAt(x, 9, 0, FADED, 0, 10, 0);
        Due.due("throughs(0) as it has FADED", x.throughs(0), 0);
        x.back();
        x.blow(8, 0, E, 1, 0);
        Due.due("throughs(0) ahead of that", x.throughs(0), 1);
        Due.due("throughs(1) ahead of that", x.throughs(1), 8);
        twoThatGoAndOneThatDoesNot();
        Due.sentence("all that GO: not one that waits, nor one from no CELL or a wall");
        x = Due.with(".#", "", "", Due.blown(3, 0, E, 1, 0), Due.blown(0, 0, E, 1, 0), Due.blown(0, 1, E, 1, 0), Due.blown(0, 1, E, 1, 0),
            Due.blown(0, 2, E, 1, 0), Due.blown(0, 2, E, 1, 0));
        Due.dueAt(x, 0, 1, GOES, 0, 1, 1);
        Due.due("throughs(0)", x.throughs(0), 0);
    }

    /** On cell 0, 1 and 2 wide, with one that is there no more, ahead of them or behind them by its number. */
    private static void twoThatGoAndOneThatDoesNot() {
        int[] older = Due.blown(12, 1, W, 1, 0), younger = Due.blown(14, 0, E, 1, 0);
        String[] told = {"FELL", "is BROKEN", "has FADED"};
        int[][] gone = {Due.blown(9, 0, N, 1, 0), Due.blown(9, 0, N, 1, 0), Due.blown(0, 1, W, 1, 0)};
        for (int i = 0; i < 3; i++) {
            Due.sentence("all that GO, on one CELL: two, and not one that " + told[i]);
            String things = i == 0 ? "001b" : "";
            SmokeRings[] all = {Due.with("..", things, "", gone[i], older, younger), Due.with("..", things, "", older, gone[i], younger),
                Due.with("..", things, "", older, younger, gone[i])};
            for (int place = 0; place < 3; place++) {
                SmokeRings x = all[place];
                if (i == 2) x.widens(1);
                if (i == 2) x.wipe(1);
                int first = place == 0 ? 1 : 0, second = place == 2 ? 1 : 2;
                Due.due("at(14, " + place + ", 0)", x.at(14, place, 0), new int[] {FELL, BROKEN, FADED}[i]);
                Due.due("at(14, " + place + ", 1)", x.at(14, place, 1), 0);
                Due.due("at(14, " + first + ", 0)", x.at(14, first, 0), GOES);
                Due.due("at(14, " + second + ", 0)", x.at(14, second, 0), GOES);
                Due.due("throughs(0)", x.throughs(0), 1);
                Due.due("throughs(1)", x.throughs(1), 14);
            }
        }
    }

    private static void throughs() {
        Due.sentence("of all those on one CELL, of unlike WIDTHS, each pair goes THROUGH each other");
        SmokeRings x = Due.with("..", "", "");
        x.widens(1);
        // each waits on cell 0 from the step behind its first, as wide as it is old, until it fades
        for (int n = 1; n <= 8; n++) {
            x.blow(n - 1, 1, W, 1, 0);
            int times = 0;
            for (int apart = 1; apart < n; apart++) times += (n - apart) * (8 - apart);
            Due.due("throughs(0) of " + n, x.throughs(0), times);
            Due.due("throughs(1) of " + n, x.throughs(1), n > 1 ? 2 : NONE);
        }
        for (int n = 7; n >= 0; n--) x.back();
        Due.due("throughs(0), all undone", x.throughs(0), 0);
        Due.due("throughs(1), all undone", x.throughs(1), NONE);
        Due.sentence("(also with one that is BROKEN so)");
        x = Due.with(".", "", "", Due.blown(18, 0, N, 1, 0), Due.blown(18, 0, N, 1, 0));
        Due.due("throughs(0) of like ones", x.throughs(0), 0);
        // widths 2, 1, 1 on cell 1 in step 19
        x = Due.with("...", "", "", Due.blown(17, 0, E, 1, 0), Due.blown(19, 1, E, 1, 0), Due.blown(19, 1, W, 1, 0));
        Due.dueAt(x, 19, 0, GOES, 1, 2, 0);
        Due.dueAt(x, 19, 1, BROKEN, 1, 1, 1);
        Due.dueAt(x, 19, 2, BROKEN, 1, 1, 1);
        Due.due("throughs(0) of one and two", x.throughs(0), 2);
        Due.due("throughs(1) of one and two", x.throughs(1), 19);
        Due.sentence("of unlike WIDTHS: two and three of them are 6 pairs");
        x = Due.with("...;...;...", "", "", Due.blown(17, 0, S, 1, 0), Due.blown(17, 6, N, 1, 0), Due.blown(18, 3, N, 1, 0), Due.blown(18, 3, S, 1, 0),
            Due.blown(18, 3, E, 1, 0));
        // all are of width 1 in step 18
        for (int r = 0; r < 5; r++) Due.due("at(18, " + r + ", 0)", x.at(18, r, 0), BROKEN);
        Due.due("throughs(0)", x.throughs(0), 0);
        x.widens(1);
        for (int r = 0; r < 5; r++) Due.due("at(18, " + r + ", 0)", x.at(18, r, 0), BROKEN);
        Due.due("throughs(0)", x.throughs(0), 6);
        Due.due("throughs(1)", x.throughs(1), 18);
        Due.sentence("in all STEPS: of one CELL and of another");
        x = Due.with("..;..", "", "", Due.blown(16, 1, W, 1, 0), Due.blown(18, 0, N, 1, 0), Due.blown(16, 3, W, 1, 0), Due.blown(18, 2, S, 1, 0));
        Due.due("throughs(0)", x.throughs(0), 2);
        Due.due("throughs(1)", x.throughs(1), 18);
        Due.sentence("THROUGHS: the first STEP (0 to 19); NONE. BAD");
        Due.due("throughs(-1)", x.throughs(-1), BAD);
        Due.due("throughs(2)", x.throughs(2), BAD);
        Due.due("throughs(LEAST)", x.throughs(Due.LEAST), BAD);
        Due.due("throughs(MOST)", x.throughs(Due.MOST), BAD);
        Due.due("throughs(1) of none", new SmokeRings().throughs(1), NONE);
        Due.due("throughs(0) of none", new SmokeRings().throughs(0), 0);
    }

    // ---- falls

    private static boolean fits(int kind, int width, int thick) {
        return kind == 0 ? width >= thick : kind == 1 ? width == thick || width == thick + 1 : width >= thick && width <= thick + 3;
    }

    private static void fitting() {
        String[] sentences = {"a person, if it is as wide as that is THICK, or wider", "a beast, if just as wide, or 1 wider",
            "a thing, if as wide, or up to 3 wider"};
        for (int kind = 0; kind < 3; kind++) {
            for (int thick = 1; thick <= 9; thick++) {
                Due.sentence(sentences[kind] + ": " + thick + " thick");
                String thing = "01" + thick + "pbt".charAt(kind);
                for (int width = 1; width <= 9; width++) {
                    // held on cell 0 by the wind, it comes to cell 1 just so wide, and waits there
                    String wind = "." + "w".repeat(Math.max(0, width - 2));
                    SmokeRings x = width == 1 ? Due.with("...", thing, "", Due.blown(0, 1, E, 1, 0))
                        : Due.with("...", thing, wind, Due.blown(0, 0, E, width - 1, 0));
                    if (width == 1) Due.type(x, 2, ".w");
                    x.widens(1);
                    int step = fits(kind, width, thick) ? width - 1 : thick > width ? thick - 1 : NONE;
                    Due.due("bound(0, 1), come " + width + " wide", x.bound(0, 1), step);
                    Due.due("at(19, 0, 0), come " + width + " wide", x.at(19, 0, 0), step == NONE ? FADED : FELL);
                    Due.due("at(19, 0, 2), come " + width + " wide", x.at(19, 0, 2), step == NONE ? 10 : step + 1);
                }
            }
        }
        Due.sentence("each that GOES FALLS: one that has FADED does not");
        String[] winds = {".wwwwwww", ".wwwwwwww"};
        for (int i = 0; i < 2; i++) {
            SmokeRings x = Due.with("..", "019p", winds[i], Due.blown(0, 0, E, 8 + i, 0));
            x.widens(1);
            Due.due("bound(0, 1)", x.bound(0, 1), i == 0 ? 8 : NONE);
            Due.due("at(19, 0, 0)", x.at(19, 0, 0), i == 0 ? FELL : FADED);
        }
        Due.sentence("each that GOES FALLS: one that is BROKEN does not");
        SmokeRings x = Due.with(".", "001p;001p", "", Due.blown(3, 0, N, 1, 0), Due.blown(3, 0, N, 1, 0));
        Due.dueUnbound(x, 0);
        x = Due.with("#", "001p", "", Due.blown(3, 0, N, 1, 0));
        Due.dueUnbound(x, 0);
        x = Due.with(".", "002p", "", Due.blown(3, 0, N, 1, 0));
        x.widens(1);
        Due.dueUnbound(x, 0);
        Due.dueAt(x, 4, 0, BROKEN, 0, 1, 0);
    }

    private static void falling() {
        Due.sentence("each FALLS over the least THING on its CELL");
        SmokeRings x = Due.with("..", "011p;001p;001p;001p", "", Due.blown(0, 0, E, 1, 3));
        Due.dueUnbound(x, 0);
        Due.dueBound(x, 1, 0, 0, 3);
        Due.dueUnbound(x, 2);
        Due.dueUnbound(x, 3);
        Due.sentence("FALLS over one that is not BOUND");
        x = Due.with(".", Due.things(8, "001p"), "");
        for (int r = 0; r < 8; r++) x.blow(19 - r, 0, E, 1, r % 4);
        // the last that is blown falls first
        for (int t = 0; t < 8; t++) Due.dueBound(x, t, 7 - t, 12 + t, (7 - t) % 4);
        Due.sentence("and that it fits");
        x = Due.with(".", "002p;002t;001b", "", Due.blown(0, 0, E, 1, 1));
        Due.dueUnbound(x, 0);
        Due.dueUnbound(x, 1);
        Due.dueBound(x, 2, 0, 0, 1);
        Due.sentence("by numbers: the lesser RING of two on one CELL");
        x = Due.with("..", "011p;019p;011t", "", Due.blown(17, 0, E, 1, 1), Due.blown(19, 1, E, 1, 2));
        Due.dueBound(x, 0, 0, 18, 1);
        x = Due.with("..", "012p", "", Due.blown(17, 0, E, 1, 1), Due.blown(19, 1, E, 1, 2));
        Due.dueBound(x, 0, 0, 19, 1);
        x = Due.with("..", "012p;011p", "", Due.blown(19, 1, E, 1, 2), Due.blown(17, 0, E, 1, 1));
        Due.dueUnbound(x, 0);
        Due.dueBound(x, 1, 1, 18, 1);
        // widths 1 and 2: ring 0 takes the first that it fits, ring 1 the next
        x = Due.with("...", "022b;021t;022p", "", Due.blown(19, 2, E, 1, 2), Due.blown(17, 0, E, 2, 1));
        Due.dueBound(x, 0, 1, 19, 1);
        Due.dueBound(x, 1, 0, 19, 2);
        Due.dueUnbound(x, 2);
        x = Due.with("...", "021p", "", Due.blown(19, 2, E, 1, 2), Due.blown(17, 0, E, 2, 1));
        Due.dueBound(x, 0, 0, 19, 2);
        Due.dueAt(x, 19, 0, FELL, 2, 1, 1);
        Due.dueAt(x, 19, 1, GOES, 2, 2, 0);
        x = Due.with("...", "021p", "", Due.blown(17, 0, E, 2, 1), Due.blown(19, 2, E, 1, 2));
        Due.dueBound(x, 0, 0, 19, 1);
        Due.dueAt(x, 19, 0, FELL, 2, 2, 0);
        Due.dueAt(x, 19, 1, GOES, 2, 1, 1);
        Due.sentence("each FALLS over one THING: it has it, and goes no more");
        x = Due.with("..", "001p;011p", "", Due.blown(0, 0, E, 1, 0));
        Due.dueBound(x, 0, 0, 0, 0);
        Due.dueUnbound(x, 1);
        Due.sentence("of one that FELL: the CELL as it was then");
        for (int step : new int[] {0, 1, 19}) Due.dueAt(x, step, 0, FELL, 0, 1, 1);
        Due.sentence("the CELL on which it stands (00 to 39): on one that there is not, or on a wall, it is not BOUND");
        x = Due.with(".#", "391p;361p;021p;011p;001p", "", Due.blown(0, 0, E, 1, 0), Due.blown(0, 1, E, 1, 0), Due.blown(0, 2, E, 1, 0), Due.blown(0, 35, E, 1, 0));
        for (int t = 0; t < 4; t++) Due.dueUnbound(x, t);
        Due.dueBound(x, 4, 0, 0, 0);
        x = Due.with("......;......;......;......;......;......", "351p", "", Due.blown(19, 35, E, 1, 0));
        Due.dueBound(x, 0, 0, 19, 0);
    }

    // ---- what they tell in all

    private static void looksRefused() {
        Due.sentence("at: BAD");
        SmokeRings x = Due.with("..", "001p", "", Due.blown(0, 0, E, 1, 0), Due.blown(0, 1, E, 1, 0));
        for (int v : new int[] {-1, 20, Due.LEAST, Due.MOST}) Due.due("at(" + v + ", 0, 0)", x.at(v, 0, 0), BAD);
        for (int v : new int[] {-1, 2, 8, Due.LEAST, Due.MOST}) Due.due("at(0, " + v + ", 0)", x.at(0, v, 0), BAD);
        for (int v : new int[] {-1, 4, Due.LEAST, Due.MOST}) Due.due("at(0, 0, " + v + ")", x.at(0, 0, v), BAD);
        Due.due("at(0, 1, 3)", x.at(0, 1, 3), 1);
        Due.due("at(19, 1, 3)", x.at(19, 1, 3), 0);
        Due.sentence("bound: BAD");
        for (int v : new int[] {-1, 1, 8, Due.LEAST, Due.MOST}) Due.due("bound(" + v + ", 0)", x.bound(v, 0), BAD);
        for (int v : new int[] {-1, 3, Due.LEAST, Due.MOST}) Due.due("bound(0, " + v + ")", x.bound(0, v), BAD);
        Due.sentence("wed: BAD");
        for (int v : new int[] {-1, 4, Due.LEAST, Due.MOST}) Due.due("wed(" + v + ", 0)", x.wed(v, 0), BAD);
        for (int v : new int[] {-1, 2, Due.LEAST, Due.MOST}) Due.due("wed(0, " + v + ")", x.wed(0, v), BAD);
    }

    /** All on cell 0; ring t comes to thing t, as thick as told, in step 8 + t at the latest. */
    private static SmokeRings household(String things, int... whom) {
        SmokeRings x = Due.with("..", things, "");
        x.widens(1);
        for (int t = 0; t < whom.length; t++) x.blow(t, 1, W, 1, whom[t]);
        return x;
    }

    private static void weddings() {
        Due.sentence("WED: THINGS that are BOUND to WHOM, as bits; what these cost in UPKEEP in all");
        for (int whom = 0; whom < 4; whom++) {
            SmokeRings x = household(Due.things(8, "009p"), whom, whom, whom, whom, whom, whom, whom, whom);
            for (int w = 0; w < 4; w++) {
                Due.due("wed(" + w + ", 0), all to " + whom, x.wed(w, 0), w == whom ? 255 : 0);
                Due.due("wed(" + w + ", 1), all to " + whom, x.wed(w, 1), w == whom ? 216 : 0);
            }
            Due.due("richest()", x.richest(), whom);
            Due.due("count(6)", x.count(6), 8);
            Due.due("missed()", x.missed(), 0);
            Due.due("lonely()", x.lonely(), 7);
            Due.due("bound(7, 1)", x.bound(7, 1), 15);
        }
        Due.sentence("UPKEEP is how THICK it is, for a beast twice, for a person three times that");
        for (int thick = 1; thick <= 9; thick++) {
            for (int kind = 0; kind < 3; kind++) {
                SmokeRings x = household("00" + thick + "pbt".charAt(kind), 2);
                Due.due("wed(2, 1) of " + thick + " " + kind, x.wed(2, 1), thick * (3 - kind));
                Due.due("wed(2, 0)", x.wed(2, 0), 1);
            }
        }
        Due.sentence("WED of nothing");
        SmokeRings x = new SmokeRings();
        for (int whom = 0; whom < 4; whom++) {
            Due.due("wed(" + whom + ", 0)", x.wed(whom, 0), 0);
            Due.due("wed(" + whom + ", 1)", x.wed(whom, 1), 0);
        }
    }

    private static void misses() {
        Due.sentence("MISSED: RINGS that do not FALL by STEP 19, as bits");
        Due.due("missed() of none", new SmokeRings().missed(), 0);
        SmokeRings x = new SmokeRings();
        for (int r = 0; r < 8; r++) x.blow(19, 0, N, 1, 0);
        Due.due("missed() of 8 without a valley", x.missed(), 255);
        x = Due.with("..", "011p", "", Due.blown(0, 5, E, 1, 0), Due.blown(18, 0, E, 1, 0), Due.blown(19, 0, E, 1, 0));
        Due.due("missed(), one falls in step 19", x.missed(), 5);
        x = Due.with(".....", "001p", "", Due.blown(0, 1, E, 1, 0), Due.blown(5, 3, E, 1, 0), Due.blown(5, 0, E, 1, 0));
        Due.dueAt(x, 19, 0, FADED, 2, 10, 0);
        Due.due("missed(), one has faded, one goes", x.missed(), 3);
        x = Due.with("..", "012p", "", Due.blown(18, 0, E, 1, 0), Due.blown(17, 0, E, 1, 0));
        Due.due("missed(), one would fall in step 20", x.missed(), 1);
        Due.dueBound(x, 0, 1, 19, 0);
        x.back();
        Due.due("missed()", x.missed(), 1);
        Due.dueUnbound(x, 0);
    }

    private static void richest() {
        Due.sentence("RICHEST: to WHOM most are BOUND, of like ones the least; NONE: nobody to anything");
        Due.due("richest() of none", new SmokeRings().richest(), NONE);
        Due.due("richest(), none bound", household("009p").richest(), NONE);
        String three = Due.things(3, "001p"), four = Due.things(4, "001p"), eight = Due.things(8, "001p");
        Due.due("richest()", household("001p", 3).richest(), 3);
        Due.due("richest()", household("001p", 0).richest(), 0);
        Due.due("richest() of like ones", household(four, 3, 2, 1, 0).richest(), 0);
        Due.due("richest() of like ones", household(three, 3, 2, 1).richest(), 1);
        Due.due("richest() of one more", household(four, 0, 1, 2, 2).richest(), 2);
        Due.due("richest() of one more", household(three, 3, 0, 3).richest(), 3);
        Due.due("richest() of two each", household(eight, 3, 2, 1, 3, 2, 1, 0, 1).richest(), 1);
        Due.due("richest(), more are not bound", household(three, 2).richest(), 2);
        Due.due("richest(), more are not bound", household(eight, 3, 1, 3).richest(), 3);
        SmokeRings x = Due.with("...;...", "009p;011t;021t", "", Due.blown(0, 3, N, 1, 0), Due.blown(0, 4, N, 1, 1), Due.blown(0, 5, N, 1, 1));
        x.widens(1);
        Due.due("wed(0, 1)", x.wed(0, 1), 27);
        Due.due("wed(1, 1)", x.wed(1, 1), 2);
        Due.due("richest() is not of UPKEEP", x.richest(), 1);
    }

    private static void lonely() {
        Due.sentence("LONELY: the THING that is BOUND last, of like STEPS the least; NONE");
        Due.due("lonely() of none", new SmokeRings().lonely(), NONE);
        Due.due("lonely(), none bound", household("009p").lonely(), NONE);
        Due.due("lonely() of one in step 0", Due.with(".", "391p;001p", "", Due.blown(0, 0, N, 1, 0)).lonely(), 1);
        String three = "001p;011p;021p";
        Due.due("lonely() of like steps", Due.with("...", three, "", Due.blown(19, 2, N, 1, 0), Due.blown(19, 1, N, 1, 0), Due.blown(19, 0, N, 1, 0)).lonely(), 0);
        Due.due("lonely() of like steps", Due.with("...", three, "", Due.blown(19, 2, N, 1, 0), Due.blown(19, 1, N, 1, 0), Due.blown(18, 0, N, 1, 0)).lonely(), 1);
        Due.due("lonely()", Due.with("...", three, "", Due.blown(19, 2, N, 1, 0), Due.blown(18, 1, N, 1, 0), Due.blown(18, 0, N, 1, 0)).lonely(), 2);
        Due.due("lonely()", Due.with("...", three, "", Due.blown(0, 2, N, 1, 0), Due.blown(1, 1, N, 1, 0), Due.blown(0, 0, N, 1, 0)).lonely(), 1);
    }

    private static void notBlownYet() {
        Due.sentence("0 not blown yet: its CELL NONE, its WIDTH 0, its BREATH as told");
        for (int breath = 1; breath <= 9; breath++) {
            SmokeRings x = Due.with(".", "", "", Due.blown(19, 0, N, breath, 0));
            Due.dueAt(x, 0, 0, WAITS, NONE, 0, breath);
            Due.dueAt(x, 18, 0, WAITS, NONE, 0, breath);
            Due.dueAt(x, 19, 0, GOES, 0, 1, breath);
        }
    }

    public static void main(String[] args) {
        partsOfRings();
        rowOfRings();
        reading();
        breathAndWind();
        wallsAndEdges();
        blownNowhere();
        widths();
        meetings();
        throughs();
        fitting();
        falling();
        looksRefused();
        weddings();
        misses();
        richest();
        lonely();
        notBlownYet();
        Due.finish();
    }
}
