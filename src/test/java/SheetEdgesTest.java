/** The edges of sheets, of counts and of the digest: promises 35 to 42. */
public final class SheetEdgesTest {
    private static final int NONE = Due.NONE, BAD = Due.BAD;
    private static final int N = Due.N, E = Due.E, S = Due.S, W = Due.W;
    private static final int LEAST = Due.LEAST, MOST = Due.MOST;

    private static void dueFinding(SmokeRings x, int number) {
        Due.due("count(8)", x.count(8), number);
    }

    // ---- sheet, lose

    private static void sheets() {
        for (int s = 0; s < 4; s++) {
            for (int form = 0; form < 3; form++) {
                Due.sentence("a row of a FORM: 0 bytes, 1 shorts, 2 ints, of 0 to 60 items (0 at first)");
                SmokeRings x = new SmokeRings();
                for (int n : new int[] {0, 1, 59, 60}) {
                    Due.due("sheet(" + s + ", " + form + ", " + n + ")", x.sheet(s, form, n), n);
                    for (int i = 0; i < n; i++) {
                        Due.due("get(" + s + ", " + form + ", " + i + ")", x.get(s, form, i), 0);
                        x.lay(s, form, i, 77);
                    }
                    dueFinding(x, n == 0 ? 0 : 2);
                    Due.due("get(" + s + ", " + form + ", " + n + ") behind the last", x.get(s, form, n), LEAST);
                    dueFinding(x, 2);
                }
                Due.sentence("BAD: SHEET, FORM, above 60");
                for (int n : new int[] {61, MOST}) Due.due("sheet(" + s + ", " + form + ", " + n + ")", x.sheet(s, form, n), BAD);
                dueFinding(x, 2);
                Due.sentence("SIZE: below 0");
                for (int n : new int[] {-1, LEAST}) Due.due("sheet(" + s + ", " + form + ", " + n + ")", x.sheet(s, form, n), Due.SIZE);
                dueFinding(x, 5);
                Due.due("get(" + s + ", " + form + ", 59), as it was", x.get(s, form, 59), 77);
                Due.sentence("It is LOST: how many items it had");
                Due.due("lose(" + s + ")", x.lose(s), 60);
                Due.due("lose(" + s + ") again", x.lose(s), Due.NULL);
                dueFinding(x, 1);
                Due.due("sheet of -1 of one that is lost", x.sheet(s, form, -1), Due.SIZE);
                Due.due("lose(" + s + "), still lost", x.lose(s), Due.NULL);
                Due.due("sheet of none", x.sheet(s, form, 0), 0);
                Due.due("lose(" + s + ") of none", x.lose(s), 0);
                Due.due("sheet behind it", x.sheet(s, form, 1), 1);
                Due.due("get of a new row, not of the one that was lost", x.get(s, form, 0), 0);
            }
        }
        Due.sentence("BAD: SHEET, FORM, ahead of SIZE");
        SmokeRings x = new SmokeRings();
        for (int s : new int[] {-1, 4, LEAST, MOST}) {
            Due.due("sheet(" + s + ", 0, 1)", x.sheet(s, 0, 1), BAD);
            Due.due("sheet(" + s + ", 0, -1)", x.sheet(s, 0, -1), BAD);
            Due.due("lose(" + s + ")", x.lose(s), BAD);
        }
        for (int form : new int[] {-1, 3, LEAST, MOST}) {
            Due.due("sheet(0, " + form + ", 1)", x.sheet(0, form, 1), BAD);
            Due.due("sheet(0, " + form + ", -1)", x.sheet(0, form, -1), BAD);
        }
        dueFinding(x, 0);
        for (int s = 0; s < 4; s++) Due.due("lose(" + s + "), still lost", x.lose(s), Due.NULL);
        Due.sentence("a SHEET is a new row: of another FORM and of another size than it was");
        x.sheet(2, 2, 60);
        x.lay(2, 2, 0, 70000);
        Due.due("sheet(2, 0, 3)", x.sheet(2, 0, 3), 3);
        Due.dueItems(x, 2, 0, 0, 0, 0);
        Due.due("get(2, 2, 0)", x.get(2, 2, 0), LEAST);
        dueFinding(x, 3);
        Due.due("lose(2)", x.lose(2), 3);
    }

    // ---- lay, get

    private static void items() {
        int[] values = {0, 1, -1, 127, 128, 129, 255, 256, -128, -129, -256, 32767, 32768, 32769, 65535, 65536, -32768, -32769, 0x12345678, LEAST, MOST};
        Due.sentence("Item i, treated as of a FORM, becomes v (the lowest bits that it has, with its sign): 1");
        for (int v : values) {
            int asByte = ((v & 255) ^ 128) - 128, asShort = ((v & 65535) ^ 32768) - 32768;
            int[] want = {asByte, asShort, v};
            SmokeRings x = new SmokeRings();
            for (int form = 0; form < 3; form++) {
                x.sheet(form, form, 3);
                Due.due("lay of " + v, x.lay(form, form, 1, v), 1);
                Due.dueItems(x, form, form, 0, want[form], 0);
                Due.due("lay at 0 of " + v, x.lay(form, form, 0, v), 1);
                Due.due("lay at 2 of 5", x.lay(form, form, 2, 5), 1);
                Due.dueItems(x, form, form, want[form], want[form], 5);
            }
            dueFinding(x, 0);
        }
        Due.sentence("An item that is the least int is no refusal: count() 8 tells");
        SmokeRings x = new SmokeRings();
        Due.fill(x, 0, 2, LEAST);
        Due.due("get(0, 2, 0)", x.get(0, 2, 0), LEAST);
        dueFinding(x, 0);
        for (int form = 0; form < 3; form++) {
            for (int n : new int[] {0, 1, 60}) {
                Due.sentence("INDEX: there is no such item");
                x = new SmokeRings();
                x.sheet(1, form, n);
                for (int i : new int[] {-1, n, n + 1, LEAST, MOST, -60}) {
                    Due.due("lay(1, " + form + ", " + i + ", 9) of " + n, x.lay(1, form, i, 9), Due.INDEX);
                    Due.due("get(1, " + form + ", " + i + ") of " + n, x.get(1, form, i), LEAST);
                    dueFinding(x, 2);
                }
                for (int i = 0; i < n; i++) Due.due("get(1, " + form + ", " + i + "), as it was", x.get(1, form, i), 0);
                Due.sentence("CAST: it has another FORM; ahead of INDEX");
                for (int other = 0; other < 3; other++) {
                    if (other == form) continue;
                    for (int i : new int[] {0, -1, n, MOST}) {
                        Due.due("lay(1, " + other + ", " + i + ", 9)", x.lay(1, other, i, 9), Due.CAST);
                        dueFinding(x, 3);
                        Due.due("get(1, " + form + ", -1)", x.get(1, form, -1), LEAST);
                        dueFinding(x, 2);
                        Due.due("get(1, " + other + ", " + i + ")", x.get(1, other, i), LEAST);
                        dueFinding(x, 3);
                    }
                }
                Due.sentence("NULL: the SHEET is LOST; ahead of CAST and INDEX");
                x.lose(1);
                for (int i : new int[] {0, -1, MOST}) {
                    x.copy(2, 0, 2, 0, 0);
                    Due.due("lay(1, " + form + ", " + i + ", 9)", x.lay(1, form, i, 9), Due.NULL);
                    dueFinding(x, 1);
                    Due.due("get(1, " + form + ", " + i + ")", x.get(1, form, i), LEAST);
                    dueFinding(x, 1);
                }
            }
        }
        wrongItems();
    }

    private static void wrongItems() {
        Due.sentence("lay: BAD; get: the least int; count() 8 as it was");
        SmokeRings x = new SmokeRings();
        Due.fill(x, 0, 0, 5);
        for (int finding = 0; finding < 2; finding++) {
            for (int v : new int[] {-1, 4, LEAST, MOST}) {
                Due.due("lay(" + v + ", 0, 0, 9)", x.lay(v, 0, 0, 9), BAD);
                Due.due("get(" + v + ", 0, 0)", x.get(v, 0, 0), LEAST);
            }
            for (int v : new int[] {-1, 3, LEAST, MOST}) {
                for (int s = 0; s < 2; s++) {
                    Due.due("lay(" + s + ", " + v + ", 0, 9)", x.lay(s, v, 0, 9), BAD);
                    Due.due("get(" + s + ", " + v + ", 0)", x.get(s, v, 0), LEAST);
                }
            }
            dueFinding(x, finding);
            Due.due("get(0, 0, 0)", x.get(0, 0, 0), 5);
            x.lose(3);
        }
    }

    // ---- copy

    private static void copies() {
        for (int form = 0; form < 3; form++) {
            Due.sentence("n items of SHEET s, from i on, come to SHEET t, from j on: 1");
            SmokeRings x = new SmokeRings();
            Due.fill(x, 0, form, 1, 2, 3, 4, 5);
            Due.fill(x, 3, form, 7, 8, 9);
            Due.due("copy(0, 0, 3, 0, 3)", x.copy(0, 0, 3, 0, 3), 1);
            Due.dueItems(x, 3, form, 1, 2, 3);
            Due.due("copy(0, 2, 3, 0, 3)", x.copy(0, 2, 3, 0, 3), 1);
            Due.dueItems(x, 3, form, 3, 4, 5);
            Due.due("copy(3, 2, 0, 4, 1)", x.copy(3, 2, 0, 4, 1), 1);
            Due.due("copy(3, 0, 0, 0, 1)", x.copy(3, 0, 0, 0, 1), 1);
            Due.dueItems(x, 0, form, 3, 2, 3, 4, 5);
            Due.dueItems(x, 3, form, 3, 4, 5);
            Due.sentence("(perhaps s, as they were)");
            Due.due("copy(0, 0, 0, 1, 4)", x.copy(0, 0, 0, 1, 4), 1);
            Due.dueItems(x, 0, form, 3, 3, 2, 3, 4);
            Due.due("copy(0, 1, 0, 0, 4)", x.copy(0, 1, 0, 0, 4), 1);
            Due.dueItems(x, 0, form, 3, 2, 3, 4, 4);
            Due.due("copy(0, 0, 0, 0, 5)", x.copy(0, 0, 0, 0, 5), 1);
            Due.due("copy(0, 0, 0, 2, 3)", x.copy(0, 0, 0, 2, 3), 1);
            Due.dueItems(x, 0, form, 3, 2, 3, 2, 3);
            dueFinding(x, 0);
            Due.sentence("INDEX: below 0, not so many");
            int[][] none = {{-1, 0, 1}, {0, -1, 1}, {0, 0, -1}, {LEAST, 0, 1}, {0, LEAST, 1}, {0, 0, LEAST}, {0, 0, 4}, {3, 0, 3}, {5, 0, 1}, {0, 3, 1},
                {0, 1, 3}, {0, 0, MOST}, {MOST, 0, 1}, {0, MOST, 1}, {MOST, MOST, MOST}, {1, 0, MOST}, {0, 1, MOST}, {-1, -1, 0}, {-1, 0, 0}, {0, -1, 0}};
            for (int[] c : none) {
                Due.due("copy(0, " + c[0] + ", 3, " + c[1] + ", " + c[2] + ")", x.copy(0, c[0], 3, c[1], c[2]), Due.INDEX);
                dueFinding(x, 2);
            }
            Due.sentence("INDEX: (with n 0, too, if i or j is above how many there are)");
            for (int i : new int[] {0, 5, 6, MOST}) {
                for (int j : new int[] {0, 3, 4, MOST}) {
                    Due.due("copy(0, " + i + ", 3, " + j + ", 0)", x.copy(0, i, 3, j, 0), i > 5 || j > 3 ? Due.INDEX : 1);
                }
            }
            Due.dueItems(x, 3, form, 3, 4, 5);
            Due.dueItems(x, 0, form, 3, 2, 3, 2, 3);
            fullCopies(form);
        }
        copiesRefused();
    }

    private static void fullCopies(int form) {
        Due.sentence("copy of 60 items, and of none of none");
        SmokeRings x = new SmokeRings();
        x.sheet(1, form, 60);
        x.sheet(2, form, 60);
        for (int i = 0; i < 60; i++) x.lay(1, form, i, i + 1);
        Due.due("copy(1, 0, 2, 0, 61)", x.copy(1, 0, 2, 0, 61), Due.INDEX);
        Due.due("copy(1, 0, 2, 0, 60)", x.copy(1, 0, 2, 0, 60), 1);
        for (int i = 0; i < 60; i++) Due.due("get(2, " + form + ", " + i + ")", x.get(2, form, i), i + 1);
        Due.due("copy(1, 60, 2, 60, 0)", x.copy(1, 60, 2, 60, 0), 1);
        Due.due("copy(1, 60, 2, 61, 0)", x.copy(1, 60, 2, 61, 0), Due.INDEX);
        x.sheet(1, form, 0);
        Due.due("copy(1, 0, 2, 60, 0)", x.copy(1, 0, 2, 60, 0), 1);
        Due.due("copy(2, 60, 1, 0, 0)", x.copy(2, 60, 1, 0, 0), 1);
        Due.due("copy(1, 0, 1, 0, 0)", x.copy(1, 0, 1, 0, 0), 1);
        Due.due("copy(1, 1, 1, 0, 0)", x.copy(1, 1, 1, 0, 0), Due.INDEX);
        Due.due("copy(1, 0, 1, 1, 0)", x.copy(1, 0, 1, 1, 0), Due.INDEX);
        Due.due("copy(2, 0, 1, 0, 1)", x.copy(2, 0, 1, 0, 1), Due.INDEX);
    }

    private static void copiesRefused() {
        SmokeRings x = new SmokeRings();
        Due.fill(x, 0, 0, 1, 2);
        Due.fill(x, 1, 1, 3, 4);
        Due.sentence("copy: BAD: the SHEETS");
        for (int s : new int[] {-1, 4, LEAST, MOST}) {
            Due.due("copy(" + s + ", 0, 0, 0, 0)", x.copy(s, 0, 0, 0, 0), BAD);
            Due.due("copy(0, 0, " + s + ", 0, 0)", x.copy(0, 0, s, 0, 0), BAD);
            Due.due("copy(2, 0, " + s + ", 0, 0), the other lost", x.copy(2, 0, s, 0, 0), BAD);
            Due.due("copy(" + s + ", 0, 2, 0, 0), the other lost", x.copy(s, 0, 2, 0, 0), BAD);
        }
        dueFinding(x, 0);
        Due.sentence("copy: STORE, ahead of INDEX");
        Due.due("copy(0, 0, 1, 0, 1)", x.copy(0, 0, 1, 0, 1), Due.STORE);
        Due.due("copy(1, 0, 0, 0, 1)", x.copy(1, 0, 0, 0, 1), Due.STORE);
        Due.due("copy(0, 0, 1, 0, 0)", x.copy(0, 0, 1, 0, 0), Due.STORE);
        Due.due("copy(0, -1, 1, 9, -1)", x.copy(0, -1, 1, 9, -1), Due.STORE);
        dueFinding(x, 4);
        Due.sentence("copy: NULL: s, t; ahead of INDEX");
        Due.due("copy(0, 0, 2, 0, 1)", x.copy(0, 0, 2, 0, 1), Due.NULL);
        dueFinding(x, 1);
        Due.due("copy(0, 0, 1, 0, 1)", x.copy(0, 0, 1, 0, 1), Due.STORE);
        Due.due("copy(2, 0, 0, 0, 1)", x.copy(2, 0, 0, 0, 1), Due.NULL);
        dueFinding(x, 1);
        Due.due("copy(2, 0, 3, 0, 0)", x.copy(2, 0, 3, 0, 0), Due.NULL);
        Due.due("copy(2, -1, 1, 9, -1)", x.copy(2, -1, 1, 9, -1), Due.NULL);
        Due.due("copy(0, -1, 3, 9, -1)", x.copy(0, -1, 3, 9, -1), Due.NULL);
        Due.due("copy(3, 0, 3, 0, 0)", x.copy(3, 0, 3, 0, 0), Due.NULL);
        Due.dueItems(x, 0, 0, 1, 2);
        Due.dueItems(x, 1, 1, 3, 4);
        for (int s = 2; s < 4; s++) Due.due("lose(" + s + "), still lost", x.lose(s), Due.NULL);
    }

    // ---- write

    private static void writes() {
        for (int form = 0; form < 3; form++) {
            Due.sentence("On which CELLS a RING is behind STEPS 0 on (NONE), as many as there are items, 20 at most: how many");
            for (int n : new int[] {0, 1, 2, 19, 20, 21, 60}) {
                SmokeRings x = Due.with("......", "", "", Due.blown(0, 0, N, 1, 0), Due.blown(2, 1, E, 3, 0));
                x.sheet(form, form, n);
                for (int i = 0; i < n; i++) x.lay(form, form, i, 99);
                Due.due("write(1, " + form + ") of " + n, x.write(1, form), Math.min(n, 20));
                for (int i = 0; i < n; i++) {
                    int cell = i >= 20 ? 99 : i < 2 ? NONE : Math.min(i - 1, 4);
                    Due.due("get(" + form + ", " + form + ", " + i + ")", x.get(form, form, i), cell);
                }
                Due.due("lose, as many as it had", x.lose(form), n);
            }
            Due.sentence("write of a RING from no CELL: NONE; and of the greatest CELL");
            SmokeRings x = Due.with("......;......;......;......;......;......", "", "", Due.blown(0, 35, N, 1, 0), Due.blown(19, 35, N, 1, 0));
            x.sheet(3, form, 20);
            Due.due("write(0, 3)", x.write(0, 3), 20);
            Due.dueItems(x, 3, form, 35, 29, 29);
            Due.due("write(1, 3)", x.write(1, 3), 20);
            Due.due("get(3, " + form + ", 18)", x.get(3, form, 18), NONE);
            Due.due("get(3, " + form + ", 19)", x.get(3, form, 19), 35);
            x.wipe(0);
            Due.due("write(0, 3)", x.write(0, 3), 20);
            for (int i = 0; i < 20; i++) Due.due("get(3, " + form + ", " + i + ")", x.get(3, form, i), NONE);
        }
        Due.sentence("write: BAD; NULL");
        SmokeRings x = Due.with(".", "", "", Due.blown(0, 0, N, 1, 0));
        for (int r : new int[] {-1, 1, 8, LEAST, MOST}) Due.due("write(" + r + ", 0)", x.write(r, 0), BAD);
        for (int s : new int[] {-1, 4, LEAST, MOST}) Due.due("write(0, " + s + ")", x.write(0, s), BAD);
        dueFinding(x, 0);
        for (int s = 0; s < 4; s++) {
            Due.due("write(0, " + s + ") to one that is lost", x.write(0, s), Due.NULL);
            Due.due("write(1, " + s + ") to one that is lost", x.write(1, s), BAD);
        }
        dueFinding(x, 1);
    }

    // ---- count

    private static void counts() {
        Due.sentence("count: 0 CELLS, 1 THINGS, 2 to 4 bytes of texts, 5 RINGS, 6 THINGS that are BOUND, 7 SEEN, 8 the latest FINDING");
        SmokeRings x = new SmokeRings();
        for (int what = 0; what <= 8; what++) Due.due("count(" + what + ") at first", x.count(what), 0);
        for (int what : new int[] {-1, 9, LEAST, MOST}) Due.due("count(" + what + ")", x.count(what), BAD);
        x = full();
        int[] want = {36, 8, 41, 39, 20, 8, 8, 8, 0};
        for (int what = 0; what <= 8; what++) Due.due("count(" + what + ") of all full", x.count(what), want[what]);
        for (int what : new int[] {-1, 9, LEAST, MOST}) Due.due("count(" + what + ")", x.count(what), BAD);
        Due.sentence("the number of the latest FINDING (0 before any)");
        x = new SmokeRings();
        x.sheet(0, 0, 1);
        x.sheet(1, 1, 1);
        dueFinding(x, 0);
        x.type(0, 256);
        x.back();
        x.get(4, 0, 0);
        dueFinding(x, 0);
        x.sheet(0, 0, -1);
        dueFinding(x, 5);
        x.copy(0, 0, 1, 0, 0);
        dueFinding(x, 4);
        x.lay(0, 1, 0, 0);
        dueFinding(x, 3);
        x.lay(0, 0, 1, 0);
        dueFinding(x, 2);
        x.lose(2);
        dueFinding(x, 1);
        x.get(0, 0, 0);
        x.lay(0, 0, 0, 1);
        x.count(8);
        x.digest();
        x.get(-1, 0, 0);
        dueFinding(x, 1);
    }

    /** All texts, all rings, all that was seen. */
    private static SmokeRings full() {
        SmokeRings x = Due.with("......;......;......;......;......;......", Due.things(8, "351p"), "n".repeat(20));
        for (int r = 0; r < 8; r++) {
            x.blow(r, 35, N, 9, 3);
            x.seen(7, 3);
        }
        return x;
    }

    // ---- digest

    private static long mixed(long h, long... vs) {
        for (long v : vs) h = 31 * h + v;
        return h;
    }

    private static void digests() {
        Due.sentence("digest of a new object");
        long h = mixed(17, 0, 0, 0, 0, 0, 0, 0, 0, NONE, NONE, NONE);
        for (int step = 0; step < 20; step++) h = mixed(h, NONE);
        for (int whom = 0; whom < 4; whom++) h = mixed(h, 0, 0, 0, NONE);
        h = mixed(h, 0, NONE, 0, NONE, NONE, 0, 0, 0, 30, NONE, 0, 0);
        Due.due("digest()", new SmokeRings().digest(), h);
        Due.sentence("breath(it, 0) (as it is told): BAD without things");
        h = mixed(17, 1, 0, 1, 0, 0, 1, 0, 0, NONE, NONE, NONE, 0);
        for (int step = 0; step < 20; step++) h = mixed(h, NONE);
        h = mixed(h, 19, 0, 3, 9, 2, 0, NONE, 0, 9, 0, NONE, 0, 9, 0, NONE, 0, 9, 1, 0, 1, 9);
        h = mixed(h, 0, 1, 0, BAD, 1, 0);
        for (int whom = 0; whom < 4; whom++) h = mixed(h, 0, 0, 0, NONE);
        // of one cell all lots are rings that leave it as soon as they move
        h = mixed(h, 0, NONE, 1, NONE, NONE, 0, 0, 1, 30, NONE, 0, 6);
        Due.due("digest()", Due.with(".", "", "", Due.blown(19, 0, W, 9, 2)).digest(), h);
        Due.sentence("digest: FINDINGS and SHEETS are not in it; what is SEEN is, by how many and by what comes of it");
        SmokeRings x = full();
        long whole = x.digest();
        x.sheet(0, 0, -1);
        x.sheet(0, 2, 60);
        x.lay(0, 2, 0, 5);
        Due.due("digest() behind those", x.digest(), whole);
        x.back();
        x.blow(7, 35, N, 9, 3);
        Due.due("digest() of the same, done anew", x.digest(), whole);
        Due.sentence("digest of THINGS on no CELL, among walls");
        x = Due.with("#", "391p", "");
        h = mixed(17, 1, 1, 1, 4, 0, 0, 0, 0, NONE, NONE, NONE, 1);
        for (int step = 0; step < 20; step++) h = mixed(h, NONE);
        h = mixed(h, 39, 1, 0, NONE, NONE, NONE, NONE, 0, NONE, 0, 1);
        for (int whom = 0; whom < 4; whom++) h = mixed(h, 0, 0, 0, NONE);
        h = mixed(h, 0, NONE, 0, NONE, NONE, 0, 0, 0, 30, 0, 0, 6);
        Due.due("digest()", x.digest(), h);
    }

    /** The digest as the calls tell it, each of them on an object made anew, but for those of one kind. */
    private static void dueDigest(java.util.function.Supplier<SmokeRings> made) {
        SmokeRings x = made.get(), y = made.get(), z = made.get();
        int rings = x.count(5), things = x.count(1);
        long h = 17;
        for (int what = 0; what < 8; what++) h = mixed(h, x.count(what));
        h = mixed(h, x.fault(0), x.fault(1), x.fault(2));
        for (int cell = 0; cell < 36 && x.cell(cell) != NONE; cell++) h = mixed(h, x.cell(cell));
        for (int step = 0; step < 20; step++) h = mixed(h, x.wind(step));
        for (int r = 0; r < rings; r++) {
            for (int what = 0; what < 5; what++) h = mixed(h, y.ring(r, what));
            for (int step : new int[] {0, 4, 9, 19}) {
                for (int what = 0; what < 4; what++) h = mixed(h, y.at(step, r, what));
            }
            for (int what = 0; what < 3; what++) h = mixed(h, y.aim(r, what));
            h = mixed(h, y.breath(r, 0), y.whence(r, NONE), y.whence(r, 0));
        }
        for (int t = 0; t < things; t++) {
            for (int what = 0; what < 3; what++) h = mixed(h, z.thing(t, what));
            for (int what = 0; what < 3; what++) h = mixed(h, z.bound(t, what));
            h = mixed(h, z.stand(t), z.hush(t, NONE), z.hush(t, 0), z.still(5, 5, t, 0, 0), z.still(5, 5, t, 0, 1));
        }
        for (int whom = 0; whom < 4; whom++) h = mixed(h, z.wed(whom, 0), z.wed(whom, 1), z.free(whom, 9, NONE), z.free(whom, 9, 0));
        h = mixed(h, z.throughs(0), z.throughs(1), z.missed(), z.richest(), z.lonely(), z.calm(0), z.calm(1));
        h = mixed(h, z.never(), z.paces(), z.ask(), z.evening(7, 6, 0), z.evening(7, 6, 1));
        Due.due("digest() as the calls tell it", made.get().digest(), h);
        Due.due("digest() behind those calls", z.digest(), h);
    }

    private static SmokeRings mixedOne(int variant) {
        String[] winds = {"..e.w.n.s.eewwnn....", ".wwww", ".n.nsewsnwes.ew"};
        SmokeRings x = Due.with("......;..#...;......;......", "002p;055b;071t;131p;102t;113b;141p;179t", winds[variant]);
        for (int r = 0; r < 8; r++) x.blow(r / 2, r * (5 + variant) % 24, (r + variant) % 4, 1 + r * 2 % 9, r * variant % 4);
        x.widens(1 + variant);
        x.seen(3, x.bound(3, 2) == NONE ? 4 : x.bound(3, 2));
        return x;
    }

    private static void digestsByTheCalls() {
        Due.sentence("h becomes 31 h and each of what the calls tell; as longs that wrap");
        dueDigest(SmokeRings::new);
        dueDigest(SheetEdgesTest::full);
        for (int variant = 0; variant < 3; variant++) {
            int v = variant;
            dueDigest(() -> mixedOne(v));
        }
        Due.sentence("digest: each of its numbers counts");
        dueDigest(() -> Due.with("..", "011p", "", Due.blown(0, 0, E, 9, 0)));
        dueDigest(() -> Due.with("....", "009t;012t;022b;031t", "", Due.blown(0, 1, E, 1, 0), Due.blown(0, 3, E, 1, 3)));
        for (int more = 5; more < 8; more++) {
            String things = "002p;01" + (more - 3) + "t";
            dueDigest(() -> Due.with("..", things, "", Due.blown(0, 1, W, 1, 0), Due.blown(0, 0, E, 1, 0)));
        }
        dueDigest(() -> Due.with("......", "013p;031b;057t;042p", ".w.www", Due.blown(0, 0, E, 4, 0), Due.blown(3, 3, W, 1, 0), Due.blown(5, 4, E, 1, 0)));
        dueDigest(() -> Due.with("...", "019t;001t", ".....e", Due.blown(4, 0, E, 1, 0), Due.blown(3, 0, W, 9, 0)));
        dueDigest(() -> Due.with("...", "011t;001t", "......e", Due.blown(5, 0, E, 1, 0), Due.blown(3, 0, W, 9, 0)));
        dueDigest(() -> Due.with("..;..", "009t;011t;022b", "", Due.blown(0, 1, W, 1, 0), Due.blown(0, 3, N, 1, 0), Due.blown(9, 2, S, 1, 1), Due.blown(9, 3, W, 1, 1)));
    }

    private static void dueAnew(SmokeRings x, java.util.function.Supplier<SmokeRings> made) {
        Due.due("digest() behind changes", x.digest(), made.get().digest());
    }

    private static void changes() {
        Due.sentence("digest is of what is told now: behind each change as if it was told so from the first");
        int[] first = Due.blown(0, 0, E, 2, 1), second = Due.blown(0, 3, W, 1, 2);
        SmokeRings x = Due.with("....", "011p;023t", ".e..w", first, second);
        x.digest();
        x.undo(2);
        dueAnew(x, () -> Due.with("....", "011p;023t", ".e..", first, second));
        x.back();
        dueAnew(x, () -> Due.with("....", "011p;023t", ".e..", first));
        Due.type(x, 0, ";...");
        dueAnew(x, () -> Due.with("....;...", "011p;023t", ".e..", first));
        x.type(0, '#');
        dueAnew(x, () -> Due.with("....;...#", "011p;023t", ".e..", first));
        x.undo(1);
        dueAnew(x, () -> Due.with("....;...#", "011p;023", ".e..", first));
        x.type(1, 'p');
        dueAnew(x, () -> Due.with("....;...#", "011p;023p", ".e..", first));
        x.seen(0, 1);
        dueAnew(x, () -> seenOne(Due.with("....;...#", "011p;023p", ".e..", first)));
        x.widens(1);
        x.widens(2);
        dueAnew(x, () -> seenOne(Due.with("....;...#", "011p;023p", ".e..", first)));
        x.forget();
        x.wipe(0);
        dueAnew(x, () -> Due.with("", "011p;023p", ".e..", first));
        x.wipe(1);
        x.wipe(2);
        x.back();
        dueAnew(x, SmokeRings::new);
    }

    private static SmokeRings seenOne(SmokeRings x) {
        x.seen(0, 1);
        return x;
    }

    private static void manyCalls() {
        Due.sentence("An object is used for at most 512 calls after it has been made");
        long h = full().digest();
        SmokeRings x = full();
        // full() took 41 + 39 + 20 bytes, 8 rings and 8 times seen
        for (int call = 117; call < 512; call++) {
            if (call % 2 == 1) Due.due("call " + call + ", back() or sheet()", call % 4 == 1 ? x.back() : x.sheet(0, 2, 60), call % 4 == 1 ? 7 : 60);
            else Due.due("call " + call + ", blow() or lose()", call % 4 == 2 ? x.blow(7, 35, N, 9, 3) : x.lose(0), call % 4 == 2 ? 8 : 60);
        }
        Due.due("digest(), the 512th call", x.digest(), h);
    }

    public static void main(String[] args) {
        sheets();
        items();
        copies();
        writes();
        counts();
        digests();
        digestsByTheCalls();
        changes();
        manyCalls();
        Due.finish();
    }
}
