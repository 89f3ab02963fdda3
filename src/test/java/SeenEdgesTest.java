/** The edges of what was seen, of chance and of evenings: Terms 4, and promises 27 to 34. */
public final class SeenEdgesTest {
    private static final int NONE = Due.NONE, BAD = Due.BAD, FULL = Due.FULL;
    private static final int N = Due.N, E = Due.E, W = Due.W;
    private static final String SQUARE = "......;......;......;......;......;......";
    private static final int NOT_AT_ALL = 4;

    // ---- seen, forget

    private static void rowOfSeen() {
        Due.sentence("SEEN, 8 at most: how many; BAD; FULL");
        SmokeRings x = new SmokeRings();
        for (int n = 1; n <= 8; n++) {
            Due.due("seen", x.seen(n - 1, n % 5), n);
            Due.due("count(7)", x.count(7), n);
        }
        for (int i = 0; i < 2; i++) {
            Due.due("seen of a ninth", x.seen(7, 4), FULL);
            Due.due("seen of a ninth", x.seen(0, 0), FULL);
            Due.due("seen of a ninth, of no thing", x.seen(8, 0), BAD);
            Due.due("seen of a ninth, of no thing", x.seen(-1, 0), BAD);
            Due.due("seen of a ninth, to nobody", x.seen(0, 5), BAD);
            Due.due("seen of a ninth, to nobody", x.seen(0, -1), BAD);
            Due.due("count(7)", x.count(7), 8);
        }
        Due.sentence("All SEEN are forgotten: how many");
        Due.due("forget()", x.forget(), 8);
        Due.due("count(7)", x.count(7), 0);
        Due.due("forget() of none", x.forget(), 0);
        Due.due("seen behind it", x.seen(7, 4), 1);
        Due.due("forget() of one", x.forget(), 1);
        Due.sentence("a THING (0 to 7) is BOUND to WHOM (0 to 3; 4: not at all)");
        for (int v : new int[] {-1, 8, Due.LEAST, Due.MOST}) Due.due("seen(" + v + ", 0)", x.seen(v, 0), BAD);
        for (int v : new int[] {-1, 5, Due.LEAST, Due.MOST}) Due.due("seen(0, " + v + ")", x.seen(0, v), BAD);
        Due.due("count(7)", x.count(7), 0);
        for (int whom = 0; whom <= 4; whom++) Due.due("seen(7, " + whom + ")", x.seen(7, whom), whom + 1);
    }

    /** Thing t, on cell t, is bound to t % 4 by ring t; the last two are on cells 0 and 1 and not bound. */
    private static SmokeRings couples() {
        SmokeRings x = Due.with("......", "001p;011p;021p;031p;041p;051p;009b;019b", "");
        for (int r = 0; r < 6; r++) x.blow(0, r, N, 1, r % 4);
        return x;
    }

    private static void comesOutSo() {
        for (int t = 0; t < 8; t++) {
            for (int whom = 0; whom <= 4; whom++) {
                Due.sentence("a THING is BOUND to WHOM: thing " + t + " to " + whom);
                SmokeRings x = couples();
                x.seen(t, whom);
                // ring r not blown: thing r is not bound, all others are as told
                int bits = 0;
                for (int r = 0; r < 6; r++) {
                    int comes = t > 5 || t == r ? NOT_AT_ALL : t % 4;
                    if (comes == whom) bits |= 1 << r;
                }
                Due.due("never()", x.never(), bits);
                Due.due("paces()", x.paces(), whom == (t > 5 ? NOT_AT_ALL : t % 4) ? 30 : 0);
            }
        }
        Due.sentence("of a THING that there is not it never comes out so");
        for (int whom = 0; whom <= 4; whom++) {
            for (int things = 0; things < 8; things++) {
                SmokeRings x = Due.with(".", Due.things(things, "009p"), "", Due.blown(0, 0, N, 1, 0));
                x.seen(things, whom);
                Due.due("never() with " + things + " things", x.never(), 0);
                Due.due("paces() with " + things + " things", x.paces(), 0);
                Due.due("whence(0, NONE) with " + things + " things", x.whence(0, NONE), 0);
                Due.due("whence(0, 0) with " + things + " things", x.whence(0, 0), NONE);
                Due.type(x, 1, things > 0 ? ";009p" : "009p");
                Due.due("never() with one more", x.never(), whom == NOT_AT_ALL ? 1 : 0);
                Due.due("paces() with one more", x.paces(), whom == NOT_AT_ALL ? 30 : 0);
                Due.due("whence(0, NONE) with one more", x.whence(0, NONE), whom == NOT_AT_ALL ? 1 : 0);
            }
        }
        Due.sentence("all that was SEEN: the eighth, too");
        for (int place = 0; place < 8; place++) {
            SmokeRings x = couples();
            for (int i = 0; i < 8; i++) x.seen(i == place ? 1 : 0, i == place ? 2 : 0);
            Due.due("never(), one cannot be", x.never(), 0);
            Due.due("paces(), one cannot be", x.paces(), 0);
            x.forget();
            for (int i = 0; i < 8; i++) x.seen(i == place ? 1 : 0, i == place ? 1 : 0);
            Due.due("never(), all can be", x.never(), 60);
            Due.due("paces(), all can be", x.paces(), 30);
        }
        Due.sentence("all that was SEEN: two that speak against each other never come out so");
        SmokeRings x = couples();
        x.seen(0, 0);
        x.seen(0, NOT_AT_ALL);
        Due.due("never()", x.never(), 0);
        Due.due("paces()", x.paces(), 0);
        Due.due("whence(0, NONE)", x.whence(0, NONE), 0);
    }

    // ---- never, whence, paces

    private static void never() {
        Due.sentence("NEVER: RINGS each of which, had it alone not been blown, makes all that was SEEN come out so, as bits");
        Due.due("never() of none", new SmokeRings().never(), 0);
        SmokeRings x = new SmokeRings();
        for (int n = 1; n <= 8; n++) {
            x.blow(0, 0, N, 1, 0);
            Due.due("never() of " + n + " with nothing seen", x.never(), (1 << n) - 1);
        }
        x.seen(0, NOT_AT_ALL);
        Due.due("never() without things", x.never(), 0);
        Due.sentence("NEVER: had it alone not been blown");
        for (int a = 0; a < 8; a++) {
            x = Due.with("..", "001p", "");
            for (int r = 0; r < 8; r++) x.blow(r, r == a ? 0 : 1, E, 9, 2);
            x.seen(0, NOT_AT_ALL);
            Due.due("never(), ring " + a, x.never(), 1 << a);
            x.forget();
            x.seen(0, 2);
            Due.due("never(), all but ring " + a, x.never(), 255 - (1 << a));
            x.blow(0, 0, N, 1, 0);
            Due.due("count(5)", x.count(5), 8);
        }
        x = Due.with(".", "001p", "", Due.blown(0, 0, N, 1, 0), Due.blown(1, 0, N, 1, 1));
        x.seen(0, NOT_AT_ALL);
        Due.due("never(), two of them", x.never(), 0);
        // one alone makes two others meet no more
        x = Due.with(".", "001p", "", Due.blown(1, 0, N, 1, 3), Due.blown(1, 0, N, 1, 2));
        x.seen(0, 2);
        Due.due("never(), else both break", x.never(), 1);
        Due.due("bound(0, 2), as it was", x.bound(0, 2), NONE);
    }

    private static void whence() {
        Due.sentence("WHENCE of a RING: CELLS (that there are): how many; the i-th (0 to 35; NONE)");
        for (int rows = 1; rows <= 6; rows++) {
            SmokeRings x = Due.with(SQUARE.substring(0, rows * 7 - 1), "", "", Due.blown(0, 35, N, 1, 0));
            Due.due("whence(0, NONE)", x.whence(0, NONE), rows * 6);
            for (int i = 0; i < 36; i++) Due.due("whence(0, " + i + ")", x.whence(0, i), i < rows * 6 ? i : NONE);
            Due.due("ring(0, 1), as it was", x.ring(0, 1), 35);
        }
        Due.sentence("WHENCE: CELLS (that there are), in place of its own, likewise");
        for (int cell = 0; cell < 36; cell++) {
            String at = (cell < 10 ? "0" : "") + cell;
            SmokeRings x = Due.with(SQUARE, at + "1p", "", Due.blown(19, 17, N, 1, 3), Due.blown(0, 35, N, 1, 1));
            x.seen(0, 3);
            boolean taken = cell == 35 || cell == 29;
            Due.due("whence(0, NONE) of " + cell, x.whence(0, NONE), taken ? 0 : 1);
            Due.due("whence(0, 0) of " + cell, x.whence(0, 0), taken ? NONE : cell);
            Due.due("whence(0, 1) of " + cell, x.whence(0, 1), NONE);
            Due.due("whence(0, 35) of " + cell, x.whence(0, 35), NONE);
        }
        SmokeRings x = Due.with("..#", "001p", "", Due.blown(0, 0, N, 1, 0));
        x.seen(0, NOT_AT_ALL);
        Due.due("whence(0, NONE), walls too", x.whence(0, NONE), 2);
        Due.due("whence(0, 0)", x.whence(0, 0), 1);
        Due.due("whence(0, 1)", x.whence(0, 1), 2);
        Due.due("whence(0, 2)", x.whence(0, 2), NONE);
        Due.sentence("WHENCE: none");
        x = Due.with("", "001p", "", Due.blown(0, 0, N, 1, 0));
        Due.due("whence(0, NONE) without cells", x.whence(0, NONE), 0);
        for (int i = 0; i < 36; i++) Due.due("whence(0, " + i + ") without cells", x.whence(0, i), NONE);
        Due.sentence("whence: BAD");
        for (int r : new int[] {-1, 1, 8, Due.LEAST, Due.MOST}) Due.due("whence(" + r + ", 0)", x.whence(r, 0), BAD);
        for (int i : new int[] {-2, 36, Due.LEAST, Due.MOST}) Due.due("whence(0, " + i + ")", x.whence(0, i), BAD);
        Due.due("whence(0, 0) without rings", new SmokeRings().whence(0, 0), BAD);
        Due.due("whence(7, NONE) of 8", eightRings().whence(7, NONE), 1);
        Due.due("whence(8, NONE) of 8", eightRings().whence(8, NONE), BAD);
    }

    private static SmokeRings eightRings() {
        SmokeRings x = Due.with(".", "", "");
        for (int r = 0; r < 8; r++) x.blow(r, 0, N, 1, 0);
        return x;
    }

    private static void paces() {
        Due.sentence("PACES: WIDENS (1 to 4) likewise, as bits (bit 1 on)");
        Due.due("paces() with nothing seen", new SmokeRings().paces(), 2 + 4 + 8 + 16);
        // behind 12 steps they are 9, 7, 5, 4 wide
        int[][][] seen = {{{0, 1}}, {{0, 4}, {1, 1}}, {{1, 4}, {2, 1}}, {{2, 4}}, {{3, 1}}, {{3, 4}}, {{1, 1}}, {{2, 1}}, {{0, 4}}, {{1, 4}}};
        int[] bits = {2, 4, 8, 16, 30, 0, 6, 14, 28, 24};
        for (int told = 1; told <= 4; told++) {
            for (int i = 0; i < seen.length; i++) {
                SmokeRings x = Due.with("......;......", "009p;017p;025p;034p", "", Due.blown(7, 6, N, 1, 1), Due.blown(7, 7, N, 1, 1),
                    Due.blown(7, 8, N, 1, 1), Due.blown(7, 9, N, 1, 1));
                x.widens(told);
                for (int[] s : seen[i]) x.seen(s[0], s[1]);
                Due.due("paces(), seen " + i, x.paces(), bits[i]);
                Due.due("widens, as it was", x.widens(told), told);
            }
        }
    }

    // ---- ask

    private static void ask() {
        Due.sentence("ASK: NONE: there are no THINGS");
        Due.due("ask()", new SmokeRings().ask(), NONE);
        Due.due("ask() with rings", eightRings().ask(), NONE);
        Due.due("ask() with a fault in the things", Due.with(".", "001p;", "").ask(), NONE);
        Due.sentence("ASK: of like ones the least");
        for (int n = 1; n <= 8; n++) {
            Due.due("ask() of " + n + " without rings", Due.with(".", Due.things(n, "001p"), "").ask(), 0);
            SmokeRings x = Due.with(".", Due.things(n, "009p"), "", Due.blown(0, 0, N, 1, 0));
            Due.due("ask() of " + n + " never bound", x.ask(), 0);
            x.seen(0, 3);
            Due.due("ask() of " + n + " as nothing can be", x.ask(), 0);
        }
        for (int t = 0; t < 8; t++) {
            Due.sentence("ASK: the greatest number of RINGS by which it is BOUND to the same one is least: thing " + t);
            String things = Due.things(t, "399p") + (t > 0 ? ";" : "") + "001p" + (t < 7 ? ";" : "") + Due.things(7 - t, "399p");
            SmokeRings x = Due.with("..", things, "", Due.blown(0, 0, N, 1, 0), Due.blown(1, 0, N, 1, 1));
            Due.due("ask(), 1 and 1 to 2", x.ask(), t);
            x.back();
            x.blow(1, 0, N, 1, 0);
            Due.due("ask(), both of one man", x.ask(), 0);
            x.back();
            Due.due("ask() of one ring", x.ask(), 0);
            Due.sentence("ASK: (or not at all): thing " + t);
            x.blow(1, 1, E, 1, 0);
            Due.due("ask(), by 0 or not at all", x.ask(), t);
        }
        Due.sentence("ASK: of those RINGS but for which all SEEN is so");
        // ring 2 alone leaves thing 0 free; of rings 0, 1 thing 1 tells
        SmokeRings x = Due.with("...", "021p;001p;391p", "", Due.blown(0, 0, N, 1, 0), Due.blown(1, 0, N, 1, 1), Due.blown(0, 2, E, 1, 3));
        // thing 0: 3, 3, free; thing 1: 1, 0, 0
        Due.due("ask(), nothing seen", x.ask(), 0);
        x.seen(0, 3);
        Due.due("ask(), rings 0 and 1", x.ask(), 1);
        x.seen(0, 4);
        Due.due("ask(), no ring", x.ask(), 0);
        Due.sentence("ASK: the greatest number for which it is the same, of 8");
        for (int n = 1; n <= 8; n++) {
            SmokeRings like = Due.with(".", Due.things(n, "009p"), "");
            for (int r = 0; r < 8; r++) like.blow(r, 0, N, 1, 0);
            Due.due("ask() of " + n + ", all free, by 8 rings", like.ask(), 0);
        }
        x = Due.with("......", "051p;001p", "");
        for (int r = 0; r < 7; r++) x.blow(r, 5, E, 1, 0);
        x.blow(0, 0, N, 1, 1);
        // thing 0: to 0 without any of them; thing 1: to 1 seven times, free once
        Due.due("ask(), 8 to 7", x.ask(), 1);
        x.seen(1, 4);
        Due.due("ask(), 1 to 1", x.ask(), 0);
    }

    // ---- still

    private static void dueStill(SmokeRings x, int c, int last, int whom, long above, long below) {
        Due.due("still(" + c + ", " + last + ", 0, " + whom + ", 0)", x.still(c, last, 0, whom, 0), above);
        Due.due("still(" + c + ", " + last + ", 0, " + whom + ", 1)", x.still(c, last, 0, whom, 1), below);
    }

    private static long power(long x, int n) {
        return n == 0 ? 1 : x * power(x, n - 1);
    }

    private static void dueFraction(SmokeRings x, int c, int last, long above, long below) {
        long a = above, b = below;
        while (b != 0) {
            long rest = a % b;
            a = b;
            b = rest;
        }
        dueStill(x, c, last, 1, above / a, below / a);
    }

    private static void still() {
        // it must be windy in each of the steps 1 to 9
        SmokeRings windy = Due.with("......;......", "004p", "swwwwwwwww", Due.blown(0, 0, E, 9, 1));
        windy.widens(3);
        for (int c = 0; c <= 16; c++) {
            Due.sentence("in each STEP from 0 to 9 there is no WIND by c sixteenths (0 to 16), by itself");
            dueFraction(windy, c, 9, power(16 - c, 9), power(16, 9));
            Due.sentence("(else as told)");
            dueFraction(windy, c, 8, power(16 - c, 8), power(16, 8));
            dueFraction(windy, c, 1, 16 - c, 16);
            dueFraction(windy, c, 0, 1, 1);
        }
        // it must be calm in each of them: else it is driven south, and there is no way back
        SmokeRings still = Due.with("..;..", "004p", ".sssssssss", Due.blown(0, 1, W, 1, 1));
        still.widens(3);
        for (int c = 0; c <= 16; c++) {
            Due.sentence("in each STEP from 0 to 9 there is no WIND by c sixteenths (0 to 16), by itself");
            dueFraction(still, c, 9, power(c, 9), power(16, 9));
            Due.sentence("(else as told)");
            dueFraction(still, c, 8, 0, 1);
            dueFraction(still, c, 0, 0, 1);
        }
        Due.sentence("FRACTIONS are told in lowest terms, above and below (0 by 1)");
        dueStill(windy, 16, 9, 1, 0, 1);
        dueStill(windy, 0, 9, 1, 1, 1);
        dueStill(windy, 15, 9, 1, 1, 1L << 36);
        dueStill(windy, 1, 9, 1, 38443359375L, 68719476736L);
        dueStill(windy, 8, 9, 1, 1, 512);
        dueStill(windy, 12, 1, 1, 1, 4);
        dueStill(windy, 10, 1, 1, 3, 8);
        dueStill(windy, 11, 1, 1, 5, 16);
        for (int whom : new int[] {0, 2, 3}) dueStill(windy, 5, 9, whom, 0, 1);
        stillOfMore();
    }

    private static void stillOfMore() {
        Due.sentence("the chance that a THING is BOUND to WHOM (0 to 3)");
        for (int whom = 0; whom < 4; whom++) {
            SmokeRings x = Due.with(".", "001p", "nesw", Due.blown(0, 0, N, 1, whom));
            for (int w = 0; w < 4; w++) dueStill(x, 5, 9, w, w == whom ? 1 : 0, 1);
        }
        for (int t = 0; t < 8; t++) {
            String things = Due.things(t, "399p") + (t > 0 ? ";" : "") + "061p" + (t < 7 ? ";" : "") + Due.things(7 - t, "399p");
            for (int whom = 0; whom < 4; whom++) {
                // the ring comes to thing t in step 7, but for the wind
                SmokeRings x = Due.with("......;......", things, ".......s", Due.blown(6, 0, Due.S, 1, whom));
                for (int other = 0; other < 8; other++) {
                    for (int w = 0; w < 4; w++) {
                        boolean so = other == t && w == whom;
                        Due.due("still(7, 7, " + other + ", " + w + ", 0)", x.still(7, 7, other, w, 0), so ? 7 : 0);
                        Due.due("still(7, 7, " + other + ", " + w + ", 1)", x.still(7, 7, other, w, 1), so ? 16 : 1);
                    }
                }
            }
        }
        // in step 1 it is driven on to thing 1, or it comes to thing 0, which leaves thing 1 to ring 1
        SmokeRings x = Due.with("...", "011p;021p", ".e", Due.blown(0, 0, E, 1, 3), Due.blown(5, 2, E, 1, 2));
        dueStill(x, 6, 1, 3, 3, 8);
        for (int whom = 0; whom < 4; whom++) {
            Due.due("still(6, 1, 1, " + whom + ", 0)", x.still(6, 1, 1, whom, 0), new int[] {0, 0, 3, 5}[whom]);
            Due.due("still(6, 1, 1, " + whom + ", 1)", x.still(6, 1, 1, whom, 1), whom < 2 ? 1 : 8);
        }
        Due.sentence("the chance that a THING is BOUND: of one ahead of one that is not");
        SmokeRings two = Due.with("..", "001p;009p", ".n", Due.blown(3, 0, E, 1, 0));
        for (int whom = 0; whom < 4; whom++) {
            for (int t = 0; t < 2; t++) {
                Due.due("still(5, 5, " + t + ", " + whom + ", 0)", two.still(5, 5, t, whom, 0), t == 0 && whom == 0 ? 1 : 0);
                Due.due("still(5, 5, " + t + ", " + whom + ", 1)", two.still(5, 5, t, whom, 1), 1);
            }
        }
        Due.sentence("the wind that is calm by chance stays as told");
        for (int step = 0; step < 20; step++) Due.due("wind(" + step + ")", x.wind(step), step == 1 ? 1 : NONE);
        Due.dueBound(x, 1, 0, 1, 3);
        Due.sentence("from 0 to a told one (0 to 9): a STEP behind it is as told, though the wind text is full");
        for (int step = 1; step < 20; step++) {
            x = Due.with("..", "011p", "e".repeat(20), Due.blown(step - 1, 0, E, 1, 1));
            dueStill(x, 5, 9, 1, step < 10 ? 5 : 0, step < 10 ? 16 : 1);
            if (step < 10) dueStill(x, 5, step, 1, 5, 16);
            if (step > 1) dueStill(x, 5, Math.min(9, step - 1), 1, 0, 1);
        }
        Due.sentence("still: BAD, as the least long and 2 more");
        long bad = Long.MIN_VALUE + 2;
        for (int v : new int[] {-1, 17, Due.LEAST, Due.MOST}) Due.due("still(" + v + ", ..)", x.still(v, 0, 0, 0, 0), bad);
        for (int v : new int[] {-1, 10, Due.LEAST, Due.MOST}) Due.due("still(0, " + v + ", ..)", x.still(0, v, 0, 0, 0), bad);
        for (int v : new int[] {-1, 1, 8, Due.LEAST, Due.MOST}) Due.due("still(0, 0, " + v + ", ..)", x.still(0, 0, v, 0, 0), bad);
        for (int v : new int[] {-1, 4, 5, Due.LEAST, Due.MOST}) Due.due("still(0, 0, 0, " + v + ", 0)", x.still(0, 0, 0, v, 0), bad);
        for (int v : new int[] {-1, 2, Due.LEAST, Due.MOST}) Due.due("still(0, 0, 0, 0, " + v + ")", x.still(0, 0, 0, 0, v), bad);
        Due.due("still without things", new SmokeRings().still(0, 0, 0, 0, 0), bad);
        x = Due.with("", Due.things(8, "001p"), "");
        Due.due("still(0, 0, 7, 0, 1)", x.still(0, 0, 7, 0, 1), 1);
        Due.due("still(16, 9, 7, 3, 0)", x.still(16, 9, 7, 3, 0), 0);
        Due.due("still(16, 9, 8, 3, 0)", x.still(16, 9, 8, 3, 0), bad);
    }

    // ---- evenings

    private static long seed;

    private static int lot(int m) {
        seed = (1103515245L * seed + 12345L) & 0xffffffffL;
        return (int) ((seed >> 16) % m);
    }

    private static String place(int cell) {
        return (cell < 10 ? "0" : "") + cell;
    }

    /** In the open square, where none meets one of its own width: which rings leave it, and where the others stay. */
    private static void dueEvening(int start) {
        Due.sentence("EVENING by a SEED: " + start);
        SmokeRings x = Due.with(SQUARE, "", "", Due.blown(0, 0, E, 1, 0));
        x.widens(1);
        seed = start & 0xffffffffL;
        int broken = 0;
        for (int n = 1; n <= 8; n++) {
            int from = lot(36), way = lot(4), breath = lot(9) + 1;
            int row = from / 6, column = from % 6;
            int toEdge = way == 0 ? row : way == 1 ? 5 - column : way == 2 ? 5 - row : column;
            if (breath > toEdge) broken++;
            Due.due("evening(" + start + ", " + n + ", 1)", x.evening(start, n, 1), broken);
            Due.due("evening(" + start + ", " + n + ", 0) without things", x.evening(start, n, 0), 0);
            if (n == 1) {
                Due.retype(x, 1, place(from) + "1p");
                Due.due("evening(" + start + ", 1, 0), from there", x.evening(start, 1, 0), 1);
                Due.due("evening(" + start + ", 1, 1), from there", x.evening(start, 1, 1), 0);
                int end = breath > toEdge ? NONE : from + breath * new int[] {-6, 1, 6, -1}[way];
                for (int cell = 0; cell < 36; cell++) {
                    Due.retype(x, 1, place(cell) + "9p");
                    Due.due("evening(" + start + ", 1, 0), stays on " + cell, x.evening(start, 1, 0), cell == end ? 1 : 0);
                }
                if (end != NONE && end % 6 < 5 && breath < 8) dueDriven(start, end, breath);
                x = Due.with(SQUARE, "", "");
                x.widens(1);
            }
        }
    }

    /** The wind drives the ring that stays on a cell, in the step behind its breath. */
    private static void dueDriven(int start, int end, int breath) {
        Due.sentence("EVENING: in the valley, with the things, the wind and WIDENS as told");
        SmokeRings x = Due.with(SQUARE, place(end + 1) + "9p", ".".repeat(breath + 1) + "e");
        Due.due("evening(" + start + ", 1, 0), wide enough in step 16", x.evening(start, 1, 0), 1);
        x.widens(3);
        Due.due("evening(" + start + ", 1, 0), never so wide", x.evening(start, 1, 0), 0);
        x.widens(1);
        Due.due("evening(" + start + ", 1, 0), driven on", x.evening(start, 1, 0), 1);
        x.undo(2);
        Due.due("evening(" + start + ", 1, 0), not driven on", x.evening(start, 1, 0), 0);
        x.type(2, 'e');
        Due.retype(x, 1, place(end) + "9p");
        Due.due("evening(" + start + ", 1, 0), driven away", x.evening(start, 1, 0), 0);
    }

    private static void evenings() {
        for (int start : new int[] {0, 1, -1, 2, 7, 122, Due.LEAST, Due.MOST, 12345, -12345, 65536, 1 << 30, -2}) dueEvening(start);
        for (int start = 100; start < 200; start++) dueEvening(start * 40503);
        for (int n = 1; n <= 8; n++) {
            Due.sentence("n RINGS (1 to 8), in place of those told, each blown in the STEP of its number");
            for (int start : new int[] {0, 99, Due.LEAST, Due.MOST}) {
                SmokeRings x = Due.with(".", Due.things(8, "001p"), "");
                for (int r = 0; r < 8; r++) x.blow(19, 0, N, 1, 3);
                Due.due("evening of " + n + ", each falls", x.evening(start, n, 0), n);
                Due.due("evening of " + n + ", each falls", x.evening(start, n, 1), 0);
                Due.due("count(5), as it was", x.count(5), 8);
                Due.due("count(6), as it was", x.count(6), 0);
                x.wipe(1);
                Due.due("evening of " + n + ", each breaks", x.evening(start, n, 1), n);
                Due.due("evening of " + n + ", each breaks", x.evening(start, n, 0), 0);
                Due.retype(x, 0, "#");
                Due.due("evening of " + n + ", on a wall", x.evening(start, n, 1), n);
                Due.retype(x, 0, ".;");
                Due.sentence("no LOTS, no RINGS where there are none");
                Due.due("evening of " + n + ", no cells", x.evening(start, n, 1), 0);
                Due.due("evening of " + n + ", no cells", x.evening(start, n, 0), 0);
            }
        }
        Due.sentence("evening: BAD");
        SmokeRings x = Due.with(".", "001p", "");
        for (int n : new int[] {0, 9, -1, Due.LEAST, Due.MOST}) Due.due("evening(0, " + n + ", 0)", x.evening(0, n, 0), BAD);
        for (int what : new int[] {-1, 2, Due.LEAST, Due.MOST}) Due.due("evening(0, 1, " + what + ")", x.evening(0, 1, what), BAD);
        Due.due("evening(0, 9, 0) without cells", new SmokeRings().evening(0, 9, 0), BAD);
        Due.due("evening(0, 8, 2) without cells", new SmokeRings().evening(0, 8, 2), BAD);
    }

    public static void main(String[] args) {
        rowOfSeen();
        comesOutSo();
        never();
        whence();
        paces();
        ask();
        still();
        evenings();
        Due.finish();
    }
}
