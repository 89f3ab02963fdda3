/** The edges of plans: Terms 3, and promises 21 to 26. */
public final class PlanEdgesTest {
    private static final int NONE = Due.NONE, BAD = Due.BAD;
    private static final int N = Due.N, E = Due.E, S = Due.S, W = Due.W;
    private static final String SQUARE = "......;......;......;......;......;......";
    private static final String[] WAYS = {"n", "e", "s", "w"};

    private static void due3(String what, int[] got, int... want) {
        for (int i = 0; i < want.length; i++) Due.due(what + ", answer " + i, got[i], want[i]);
    }

    private static int[] aim(SmokeRings x, int r) {
        return new int[] {x.aim(r, 0), x.aim(r, 1), x.aim(r, 2)};
    }

    private static int[] hush(SmokeRings x, int t) {
        return new int[] {x.hush(t, NONE), x.hush(t, 0), x.hush(t, 1)};
    }

    private static int[] calm(SmokeRings x) {
        return new int[] {x.calm(0), x.calm(1)};
    }

    private static int[] free(SmokeRings x, int whom, int most) {
        return new int[] {x.free(whom, most, NONE), x.free(whom, most, 0), x.free(whom, most, 1)};
    }

    /** On cell 0 the wind holds a ring for so many steps, as long as it has breath; behind that it breaks. */
    private static SmokeRings held(int steps, int widens, String thing, int breath) {
        SmokeRings x = Due.with("..", thing, "." + "w".repeat(steps), Due.blown(0, 0, E, breath, 1));
        x.widens(widens);
        return x;
    }

    // ---- breath

    private static void breaths() {
        Due.sentence("BREATH: the least BREATH (1 to 9) by which that THING is BOUND by that RING");
        for (int own = 1; own <= 9; own += 4) {
            for (int thick = 1; thick <= 9; thick++) {
                SmokeRings x = held(10, 1, "00" + thick + "p", own);
                Due.due("breath(0, 0), " + thick + " thick", x.breath(0, 0), Math.max(1, thick - 1));
                Due.due("ring(0, 3), as it was", x.ring(0, 3), own);
                Due.due("at(0, 0, 3), as it was", x.at(0, 0, 3), own);
            }
            Due.due("breath(0, 0), the greatest", held(9, 3, "004p", own).breath(0, 0), 9);
            Due.due("breath(0, 0), the greatest, of a beast", held(9, 3, "004b", own).breath(0, 0), 9);
            Due.due("breath(0, 0), 10 would be wanted", held(10, 2, "006p", own).breath(0, 0), NONE);
        }
        SmokeRings line = Due.with("......", "041p;033t;009p", "", Due.blown(0, 0, E, 2, 0), Due.blown(0, 5, E, 1, 0));
        Due.due("breath(0, 0), passing", line.breath(0, 0), 4);
        Due.due("breath(0, 1), waiting", line.breath(0, 1), 3);
        Due.due("breath(0, 2), from where it goes", line.breath(0, 2), NONE);
        Due.due("breath(1, 0), never", line.breath(1, 0), NONE);
        Due.sentence("BREATH: NONE");
        Due.due("breath on no cell", Due.with(".", "001p", "", Due.blown(0, 1, E, 1, 0)).breath(0, 0), NONE);
        Due.due("breath on a wall", Due.with("#", "001p", "", Due.blown(0, 0, E, 1, 0)).breath(0, 0), NONE);
        Due.due("breath without a valley", Due.with("", "001p", "", Due.blown(0, 0, E, 1, 0)).breath(0, 0), NONE);
        Due.due("breath as it is blown", Due.with(".", "001p", "", Due.blown(19, 0, E, 9, 0)).breath(0, 0), 1);
        Due.due("breath, too late", Due.with("..", "011p", "", Due.blown(19, 0, E, 9, 0)).breath(0, 0), NONE);
        Due.due("breath, just in time", Due.with("..", "011p", "", Due.blown(18, 0, E, 9, 0)).breath(0, 0), 1);
        Due.sentence("by which that THING is BOUND by that RING: not by another");
        SmokeRings x = Due.with("...", "011p", "", Due.blown(0, 0, E, 1, 0), Due.blown(1, 2, W, 1, 0));
        Due.due("breath(0, 0)", x.breath(0, 0), 1);
        Due.due("breath(1, 0)", x.breath(1, 0), NONE);
        // both come in step 1: of like width they break, but for breath of another end
        x = Due.with("...;...", "012p", "", Due.blown(0, 0, E, 1, 0), Due.blown(0, 2, W, 1, 0));
        Due.due("breath(0, 0), both break", x.breath(0, 0), NONE);
        // over the lesser thing with its breath as told, over the greater with more
        x = Due.with("......", "012p;031p", "", Due.blown(0, 0, E, 1, 0));
        Due.due("breath(0, 0)", x.breath(0, 0), 1);
        Due.due("breath(0, 1)", x.breath(0, 1), 3);
    }

    // ---- aim

    private static void aims() {
        Due.sentence("AIM: the way by which most THINGS are BOUND");
        int[] next = {1, 5, 7, 3};
        for (int way = 0; way < 4; way++) {
            SmokeRings x = Due.with("...;...;...", "0" + next[way] + "1p", "", Due.blown(0, 4, 3 - way, 9, 0));
            due3("aim(0)", aim(x, 0), way, 1, 1);
            Due.due("ring(0, 2), as it was", x.ring(0, 2), 3 - way);
            Due.due("ring(0, 3), as it was", x.ring(0, 3), 9);
            for (int other = way + 1; other < 4; other++) {
                Due.sentence("AIM: of like ones the least way");
                x = Due.with("...;...;...", "0" + next[way] + "1p;0" + next[other] + "1p", "", Due.blown(0, 4, other, 1, 0));
                due3("aim(0)", aim(x, 0), way, 1, 1);
            }
        }
        Due.sentence("AIM: the least way ahead of the least BREATH");
        due3("aim(0)", aim(Due.with("...;...;...;...;...", "011p;101p", "", Due.blown(0, 7, S, 1, 0)), 0), 0, 2, 1);
        Due.sentence("AIM: then the least BREATH");
        for (int thick = 1; thick <= 9; thick++) {
            due3("aim(0), " + thick + " thick", aim(held(10, 1, "00" + thick + "p", 5), 0), thick > 1 ? E : N, Math.max(1, thick - 1), 1);
        }
        due3("aim(0), 9", aim(held(9, 3, "004p", 1), 0), E, 9, 1);
        due3("aim(0), none", aim(held(10, 2, "006p", 9), 0), 0, 1, 0);
        Due.sentence("AIM of a RING by which none is BOUND: the least way, the least BREATH");
        due3("aim(0) without things", aim(Due.with(SQUARE, "", "", Due.blown(0, 14, W, 9, 0)), 0), 0, 1, 0);
        due3("aim(0) without a valley", aim(Due.with("", "001p", "", Due.blown(0, 14, W, 9, 0)), 0), 0, 1, 0);
        due3("aim(0) on a wall", aim(Due.with("#", "001p", "", Due.blown(0, 0, W, 9, 0)), 0), 0, 1, 0);
        Due.sentence("AIM: most THINGS BOUND in all");
        // by the other ring one is bound in any case; south it breaks that one
        SmokeRings x = Due.with("..;..", "031p;012p", "", Due.blown(0, 2, W, 1, 0), Due.blown(0, 1, S, 1, 0));
        due3("aim(0)", aim(x, 0), 0, 1, 1);
        x = Due.with("...;...", "021p;052p", "", Due.blown(0, 4, E, 9, 0), Due.blown(0, 1, E, 1, 0));
        due3("aim(0)", aim(x, 0), E, 1, 2);
        x = Due.with("......;......", Due.things(8, "001p"), "");
        for (int r = 0; r < 8; r++) x.blow(r, 0, W, 9, r % 4);
        due3("aim(0), all 8", aim(x, 0), 0, 1, 8);
        due3("aim(7), all 8", aim(x, 7), 0, 1, 8);
        x = Due.with("...", "001p;001p", "", Due.blown(1, 0, E, 1, 0), Due.blown(0, 1, W, 1, 0));
        due3("aim(1), not into the other", aim(x, 1), 0, 1, 1);
    }

    // ---- stand

    private static void stands() {
        Due.sentence("STAND of a THING: the least open CELL on which it is not BOUND");
        SmokeRings x = Due.with(SQUARE, "351p", "");
        Due.due("stand(0) without rings", x.stand(0), 0);
        for (int row = 0; row < 5; row++) {
            x.blow(0, row * 6 + 5, W, 5, 0);
            Due.due("stand(0) behind " + (row + 1) + " rows", x.stand(0), row * 6 + 6);
        }
        x.blow(0, 34, W, 4, 0);
        Due.due("stand(0) on the last cell", x.stand(0), 35);
        Due.due("thing(0, 0), as it was", x.thing(0, 0), 35);
        x.blow(19, 35, W, 4, 0);
        Due.due("stand(0), nowhere", x.stand(0), NONE);
        x.back();
        Due.due("stand(0), undone", x.stand(0), 35);
        Due.sentence("STAND: the least open CELL");
        for (int open = 0; open < 6; open++) {
            String valley = "#".repeat(open) + "." + "#".repeat(5 - open);
            Due.due("stand(0) in " + valley, Due.with(valley, "391p", "").stand(0), open);
            Due.due("stand(0) in " + valley, Due.with(valley, "391p", "", Due.blown(0, open, N, 1, 0)).stand(0), NONE);
        }
        Due.due("stand(0) among walls", Due.with("##", "001p", "").stand(0), NONE);
        Due.due("stand(0) without a valley", Due.with("", "001p", "").stand(0), NONE);
        Due.sentence("STAND: in place of its own; its own too");
        x = Due.with("...", "001p;011p;021p", "", Due.blown(0, 1, E, 1, 0), Due.blown(5, 1, E, 1, 0));
        Due.due("stand(0)", x.stand(0), 0);
        // where the greater thing stands the lesser has the first ring, and in its place the other the second
        Due.due("stand(1), the first ring goes on to thing 2", x.stand(1), 0);
        Due.due("stand(2)", x.stand(2), 0);
        x = Due.with("..", "001p;001p;011p", "", Due.blown(0, 0, N, 1, 0));
        Due.due("stand(0), on cell 0 it is bound", x.stand(0), 1);
        Due.due("stand(1), behind thing 0", x.stand(1), 0);
        x = Due.with("..", "001p;001p", "", Due.blown(0, 0, N, 1, 0), Due.blown(1, 0, N, 1, 0));
        Due.due("stand(0), both bound", x.stand(0), 1);
        Due.due("stand(1), both bound", x.stand(1), 1);
        x = Due.with("..", "391p;001p", "", Due.blown(0, 0, N, 1, 0));
        Due.due("stand(0), from no cell, ahead of thing 1", x.stand(0), 1);
    }

    // ---- hush

    private static void hushes() {
        Due.sentence("HUSH: the fewest RINGS (0 to 2) not to be blown, so that it is not BOUND: 0");
        due3("hush(0) without rings", hush(Due.with(".", "001p", ""), 0), 0, NONE, NONE);
        due3("hush(0) without a valley", hush(Due.with("", "001p", "", Due.blown(0, 0, N, 1, 0)), 0), 0, NONE, NONE);
        SmokeRings x = Due.with(".", "002p", "");
        for (int r = 0; r < 8; r++) x.blow(r, 0, N, 1, 0);
        due3("hush(0), not bound", hush(x, 0), 0, NONE, NONE);
        for (int a = 0; a < 8; a++) {
            Due.sentence("HUSH: 1 RING, " + a);
            x = Due.with("..", "001p", "");
            for (int r = 0; r < 8; r++) x.blow(10 - r, r == a ? 0 : 3, N, 1, 0);
            due3("hush(0)", hush(x, 0), 1, a, NONE);
            for (int b = a + 1; b < 8; b++) {
                Due.sentence("HUSH: 2 RINGS, " + a + " and " + b);
                x = Due.with("..", "001p", "");
                for (int r = 0; r < 8; r++) x.blow(r == a ? 3 : 1, r == a || r == b ? 0 : 3, N, 1, 0);
                due3("hush(0)", hush(x, 0), 2, a, b);
                Due.due("ring(" + a + ", 0), as it was", x.ring(a, 0), 3);
                dueMore(x, a, b);
            }
        }
    }

    private static void dueMore(SmokeRings x, int a, int b) {
        Due.sentence("HUSH: NONE by 2 RINGS");
        if (b == 7) return;
        for (int n = 7; n >= b; n--) x.back();
        x.blow(1, 0, N, 1, 0);
        x.blow(2, 0, N, 1, 0);
        due3("hush(0) of three", hush(x, 0), NONE, NONE, NONE);
        x.back();
        due3("hush(0) of two", hush(x, 0), 2, a, b);
    }

    private static void hushedRows() {
        Due.sentence("HUSH: of like ones the least row (each more than the one ahead)");
        // thing 1 is bound by the second of them that comes
        SmokeRings x = Due.with("..", "001p;001p", "", Due.blown(0, 3, N, 1, 0), Due.blown(2, 0, N, 1, 0), Due.blown(0, 3, N, 1, 0), Due.blown(1, 0, N, 1, 0));
        due3("hush(1) of two", hush(x, 1), 1, 1, NONE);
        due3("hush(0) of two", hush(x, 0), 2, 1, 3);
        x.blow(3, 0, N, 1, 0);
        due3("hush(1) of three", hush(x, 1), 2, 1, 3);
        due3("hush(0) of three", hush(x, 0), NONE, NONE, NONE);
        Due.sentence("HUSH: the fewest ahead of the least row");
        // without ring 0 ring 1 would have it; ring 2 makes them both break
        x = Due.with("...", "012p", "", Due.blown(0, 0, E, 1, 0), Due.blown(5, 1, N, 1, 0), Due.blown(3, 0, E, 1, 0));
        due3("hush(0)", hush(x, 0), 2, 0, 2);
        x = Due.with(".", "001p", "", Due.blown(5, 0, N, 1, 0), Due.blown(5, 0, N, 1, 0), Due.blown(5, 0, N, 1, 0));
        due3("hush(0), three break each other", hush(x, 0), 0, NONE, NONE);
        x.back();
        x.blow(6, 0, N, 1, 0);
        due3("hush(0), two break, the third has it", hush(x, 0), 1, 2, NONE);
        Due.sentence("HUSH of one that would be BOUND else: another RING is freed by it");
        x = Due.with(".", "001p", "", Due.blown(0, 0, N, 1, 0), Due.blown(5, 0, N, 1, 0), Due.blown(5, 0, N, 1, 0));
        due3("hush(0)", hush(x, 0), 1, 0, NONE);
    }

    // ---- calm

    private static void calms() {
        Due.sentence("CALM: the STEP (0 to 19) that had better be without WIND, so that most THINGS are BOUND in all");
        for (int step = 1; step < 20; step++) {
            for (int way = 0; way < 4; way++) {
                SmokeRings x = Due.with("..", "011p", WAYS[E].repeat(20), Due.blown(step - 1, 0, E, 1, 0));
                due3("calm", calm(x), step, 1);
                Due.due("wind(" + step + "), as it was", x.wind(step), 1);
                Due.dueUnbound(x, 0);
                x = Due.with("..", "011p;001p", ".".repeat(step) + WAYS[way], Due.blown(step - 1, 0, E, 1, 0));
                due3("calm", calm(x), 0, 1);
            }
        }
        Due.sentence("CALM: of like ones the least");
        // held back in step 2 or 3, it comes to thing 0 but by a calm in one of them
        SmokeRings x = Due.with("......", "021p", ".eeeee", Due.blown(1, 0, E, 1, 0));
        Due.dueBound(x, 0, 0, 2, 0);
        due3("calm, no better", calm(x), 0, 1);
        x = Due.with("......", "031p", ".eeewwwwww", Due.blown(1, 0, E, 1, 0));
        due3("calm, as good", calm(x), 0, 1);
        x = Due.with("....", "031p", "..eww", Due.blown(1, 0, E, 3, 0));
        due3("calm in step 3 or 4", calm(x), 3, 1);
        x = Due.with("....", "032p", "....w", Due.blown(1, 0, E, 3, 0));
        due3("calm in step 4", calm(x), 4, 1);
        Due.sentence("CALM: most in all, not what is as good as told");
        x = Due.with("...;...", "021p;051p", "..w", Due.blown(1, 1, E, 1, 0), Due.blown(1, 4, E, 1, 0));
        due3("calm, both", calm(x), 2, 2);
        Due.sentence("(Also if it is no better than as it is.)");
        due3("calm without anything", calm(new SmokeRings()), 0, 0);
        due3("calm without wind", calm(Due.with(".", "001p", "", Due.blown(0, 0, N, 1, 0))), 0, 1);
        due3("calm, none bound", calm(Due.with(".", "009p", "nesw", Due.blown(0, 0, N, 1, 0))), 0, 0);
        due3("calm that does harm", calm(Due.with("...", "021p", "..ee", Due.blown(1, 0, E, 1, 0))), 0, 1);
        x = Due.with(".", Due.things(8, "001p"), "n".repeat(20));
        for (int r = 0; r < 8; r++) x.blow(r, 0, W, 9, 0);
        due3("calm, all 8 are bound", calm(x), 0, 8);
    }

    // ---- free

    /** All on cell 0, each bound by a ring that waits there until it is wide enough, in step 15 at the latest. */
    private static SmokeRings household(String things, int... whom) {
        SmokeRings x = Due.with("..", things, "");
        x.widens(1);
        for (int t = 0; t < whom.length; t++) x.blow(t, 1, W, 1, whom[t]);
        return x;
    }

    private static String allBut(String thing, int a, String as, int b) {
        StringBuilder s = new StringBuilder();
        for (int t = 0; t < 8; t++) s.append(t > 0 ? ";" : "").append(t == a || t == b ? as : thing);
        return s.toString();
    }

    private static void frees() {
        Due.sentence("FREE: so that UPKEEP is no more than a told number (0 to 99): 0");
        for (int whom = 0; whom < 4; whom++) {
            due3("free(" + whom + ", 0) of nothing", free(new SmokeRings(), whom, 0), 0, NONE, NONE);
            due3("free(" + whom + ", 99) of nothing", free(new SmokeRings(), whom, 99), 0, NONE, NONE);
            SmokeRings x = household("009p", whom);
            for (int w = 0; w < 4; w++) {
                due3("free(" + w + ", 27)", free(x, w, 27), 0, NONE, NONE);
                due3("free(" + w + ", 26)", free(x, w, 26), w == whom ? new int[] {1, 0, NONE} : new int[] {0, NONE, NONE});
                due3("free(" + w + ", 0)", free(x, w, 0), w == whom ? new int[] {1, 0, NONE} : new int[] {0, NONE, NONE});
            }
        }
        int[] all = {3, 3, 3, 3, 3, 3, 3, 3};
        for (int a = 0; a < 8; a++) {
            Due.sentence("FREE: 1 of the THINGS BOUND to him, " + a);
            SmokeRings x = household(allBut("001t", a, "009p", a), all);
            due3("free(3, 34)", free(x, 3, 34), 0, NONE, NONE);
            due3("free(3, 33)", free(x, 3, 33), 1, 0, NONE);
            due3("free(3, 32)", free(x, 3, 32), 1, a, NONE);
            due3("free(3, 7)", free(x, 3, 7), 1, a, NONE);
            due3("free(3, 6)", free(x, 3, 6), 2, 0, Math.max(1, a));
            due3("free(3, 5)", free(x, 3, 5), NONE, NONE, NONE);
            for (int b = a + 1; b < 8; b++) {
                Due.sentence("FREE: 2 of the THINGS BOUND to him, " + a + " and " + b);
                x = household(allBut("001t", a, "009p", b), all);
                due3("free(3, 60)", free(x, 3, 60), 0, NONE, NONE);
                due3("free(3, 33)", free(x, 3, 33), 1, a, NONE);
                due3("free(3, 6)", free(x, 3, 6), 2, a, b);
                due3("free(3, 5)", free(x, 3, 5), NONE, NONE, NONE);
                due3("free(3, 0)", free(x, 3, 0), NONE, NONE, NONE);
                Due.due("wed(3, 0), as it was", x.wed(3, 0), 255);
            }
        }
    }

    private static void freedRows() {
        int[] all = {1, 1, 1, 1, 1, 1, 1, 1};
        Due.sentence("FREE: a told number up to 99");
        String most = "009p;009p;009p;009p;009p;009b";
        due3("free(1, 99) of 153", free(household(most, all), 1, 99), 2, 0, 1);
        due3("free(1, 98) of 153", free(household(most, all), 1, 98), NONE, NONE, NONE);
        due3("free(1, 99) of 154", free(household(most + ";001t", all), 1, 99), NONE, NONE, NONE);
        due3("free(1, 99) of 216", free(household(Due.things(8, "009p"), all), 1, 99), NONE, NONE, NONE);
        String fewer = "009p;009p;009p;009b";
        due3("free(1, 99) of 99", free(household(fewer, all), 1, 99), 0, NONE, NONE);
        due3("free(1, 98) of 99", free(household(fewer, all), 1, 98), 1, 0, NONE);
        due3("free(1, 99) of 100", free(household(fewer + ";001t", all), 1, 99), 1, 0, NONE);
        Due.sentence("FREE: of like ones the least row (each more than the one ahead)");
        due3("free(1, 3), things 1 and 2", free(household("001t;002t;002t;002t", 1, 1, 1, 1), 1, 3), 2, 1, 2);
        due3("free(1, 4), things 0 and 1", free(household("001t;002t;002t;002t", 1, 1, 1, 1), 1, 4), 2, 0, 1);
        due3("free(1, 5), thing 1", free(household("001t;002t;002t;002t", 1, 1, 1, 1), 1, 5), 1, 1, NONE);
        due3("free(1, 6), thing 0", free(household("001t;002t;002t;002t", 1, 1, 1, 1), 1, 6), 1, 0, NONE);
        due3("free(1, 7), nothing", free(household("001t;002t;002t;002t", 1, 1, 1, 1), 1, 7), 0, NONE, NONE);
        Due.sentence("FREE: the fewest THINGS BOUND to him");
        SmokeRings x = Due.with("......;......", "009t;012t;029t;032t;043t", "", Due.blown(0, 6, N, 1, 2), Due.blown(0, 7, N, 1, 1),
            Due.blown(0, 8, N, 1, 2), Due.blown(0, 9, N, 1, 1), Due.blown(0, 10, N, 1, 1));
        x.widens(1);
        due3("free(1, 6)", free(x, 1, 6), 1, 1, NONE);
        due3("free(1, 4)", free(x, 1, 4), 1, 4, NONE);
        due3("free(1, 3)", free(x, 1, 3), 2, 1, 3);
        due3("free(1, 2)", free(x, 1, 2), 2, 1, 4);
        due3("free(1, 1)", free(x, 1, 1), NONE, NONE, NONE);
        due3("free(2, 0)", free(x, 2, 0), 2, 0, 2);
        due3("free(0, 0)", free(x, 0, 0), 0, NONE, NONE);
        Due.sentence("FREE: of UPKEEP, not of how THICK");
        x = household("003t;002b;002p", 0, 0, 0);
        due3("free(0, 8)", free(x, 0, 8), 1, 2, NONE);
        due3("free(0, 9)", free(x, 0, 9), 1, 1, NONE);
        due3("free(0, 10)", free(x, 0, 10), 1, 0, NONE);
        due3("free(0, 6)", free(x, 0, 6), 2, 0, 1);
        due3("free(0, 4)", free(x, 0, 4), 2, 0, 2);
        due3("free(0, 3)", free(x, 0, 3), 2, 1, 2);
        due3("free(0, 2)", free(x, 0, 2), NONE, NONE, NONE);
    }

    // ---- full rows, all kinds, all winds

    /** Seven rings and things that are of no account, then what is told as the eighth. */
    private static SmokeRings eighth(String valley, String thing, String wind, int... ring) {
        SmokeRings x = Due.with(valley, Due.things(7, "399p") + ";" + thing, wind);
        for (int r = 0; r < 7; r++) x.blow(19, 35, N, 1, 0);
        x.blow(ring[0], ring[1], ring[2], ring[3], ring[4]);
        return x;
    }

    private static void eighths() {
        Due.sentence("RINGS, 8 at most; THINGS, 8 at most: the eighth of each in the plans");
        for (int way = 0; way < 4; way++) {
            int cell = new int[] {1, 5, 7, 3}[way];
            SmokeRings x = eighth("...;...;...", "0" + cell + "1b", "", 4, 4, way, 9, 2);
            Due.due("breath(7, 7)", x.breath(7, 7), 1);
            due3("aim(7)", aim(x, 7), way, 1, 1);
            due3("aim(0), the other's thing all the same", aim(x, 0), 0, 1, 1);
            Due.due("stand(7)", x.stand(7), 0);
            due3("hush(7)", hush(x, 7), 1, 7, NONE);
            due3("calm", calm(x), 0, 1);
            due3("free(2, 1)", free(x, 2, 1), 1, 7, NONE);
            due3("free(2, 2)", free(x, 2, 2), 0, NONE, NONE);
            x = eighth("...;...;...", "0" + cell + "1b", ".....nnnnn", 6, 4, way, 1, 2);
            Due.due("breath(7, 7) against the wind", x.breath(7, 7), NONE);
            x = eighth("...;...;...", "041t", "", 4, 4, way, 9, 2);
            Due.due("stand(7), a thing elsewhere", x.stand(7), 0);
            x = eighth("#.#;.#.;#.#", "0" + cell + "3p", "", 4, cell, way, 9, 3);
            due3("hush(7), not so thick", hush(x, 7), 0, NONE, NONE);
        }
    }

    private static void kinds() {
        Due.sentence("plans go by the kind of a THING: what a person would be BOUND by, a beast or a thing is not");
        String[] kinds = {"p", "b", "t"};
        for (int k = 0; k < 3; k++) {
            // on cell 5 the ring is 6 wide, widening 1 a step
            SmokeRings x = Due.with("......", "051" + kinds[k], "", Due.blown(0, 0, E, 5, 0));
            x.widens(1);
            Due.due("breath(0, 0)", x.breath(0, 0), k == 0 ? 5 : NONE);
            due3("aim(0)", aim(x, 0), k == 0 ? E : N, k == 0 ? 5 : 1, k == 0 ? 1 : 0);
            Due.due("stand(0)", x.stand(0), k == 0 ? NONE : k == 1 ? 2 : 4);
            due3("hush(0)", hush(x, 0), k == 0 ? 1 : 0, k == 0 ? 0 : NONE, NONE);
            due3("calm", calm(x), 0, k == 0 ? 1 : 0);
            Due.due("whence(0, NONE)", seen(x, 0).whence(0, NONE), new int[] {6, 2, 4}[k]);
            Due.due("whence(0, 0)", x.whence(0, 0), new int[] {0, 4, 2}[k]);
            Due.due("paces()", x.paces(), new int[] {30, 24, 28}[k]);
        }
    }

    private static SmokeRings seen(SmokeRings x, int whom) {
        x.seen(0, whom);
        return x;
    }

    private static void allWinds() {
        int[] next = {1, 5, 7, 3};
        for (int way = 0; way < 4; way++) {
            Due.sentence("CALM: a STEP without the WIND that drives " + WAYS[way]);
            // the ring comes to the middle and is driven on
            SmokeRings x = Due.with("...;...;...", "041p", "....." + WAYS[way], Due.blown(4, next[way], way ^ 2, 1, 1));
            Due.due("bound(0, 1)", x.bound(0, 1), NONE);
            due3("calm", calm(x), 5, 1);
            Due.sentence("STILL: no WIND, where it drives " + WAYS[way]);
            Due.due("still, above", x.still(3, 5, 0, 1, 0), 3);
            Due.due("still, below", x.still(3, 5, 0, 1, 1), 16);
        }
    }

    /** Behind each change the answers are those of an object told so from the first. */
    private static void anew() {
        Due.sentence("plans are of what is told now, not of what was told");
        SmokeRings x = Due.with("...", "021p;011p", "...w", Due.blown(2, 0, E, 2, 0), Due.blown(0, 1, W, 1, 0));
        // ring 1 has thing 1; ring 0, driven back once, stays one cell ahead of thing 0
        due3("calm", calm(x), 3, 2);
        due3("aim(0)", aim(x, 0), E, 3, 2);
        due3("hush(1)", hush(x, 1), 2, 0, 1);
        due3("free(0, 0)", free(x, 0, 0), 1, 1, NONE);
        Due.due("stand(1)", x.stand(1), 2);
        x.wipe(1);
        due3("calm, no things", calm(x), 0, 0);
        due3("aim(0), no things", aim(x, 0), N, 1, 0);
        due3("free(0, 0), no things", free(x, 0, 0), 0, NONE, NONE);
        Due.type(x, 1, "021p");
        due3("calm, one thing", calm(x), 3, 1);
        x.wipe(2);
        due3("calm, no wind", calm(x), 0, 1);
        x.back();
        x.back();
        due3("calm, no rings", calm(x), 0, 0);
        due3("hush(0), no rings", hush(x, 0), 0, NONE, NONE);
        Due.due("stand(0), no rings", x.stand(0), 0);
    }

    private static void refusals() {
        SmokeRings x = Due.with("..", "001p;011p", "e", Due.blown(0, 0, N, 1, 0), Due.blown(0, 1, N, 1, 0));
        int[][] beyond = {{-1, 2}, {8, 7}, {Due.LEAST, Due.MOST}};
        Due.sentence("breath, aim, stand, hush, calm, free: BAD, as there is no such RING or THING");
        for (int[] v : beyond) {
            for (int i : v) {
                Due.due("breath(" + i + ", 0)", x.breath(i, 0), BAD);
                Due.due("breath(0, " + i + ")", x.breath(0, i), BAD);
                for (int what = 0; what < 3; what++) Due.due("aim(" + i + ", " + what + ")", x.aim(i, what), BAD);
                Due.due("stand(" + i + ")", x.stand(i), BAD);
                for (int k = NONE; k < 2; k++) Due.due("hush(" + i + ", " + k + ")", x.hush(i, k), BAD);
            }
        }
        Due.sentence("aim, hush, calm, free: BAD, a number not as told");
        for (int i : new int[] {-1, 3, Due.LEAST, Due.MOST}) Due.due("aim(0, " + i + ")", x.aim(0, i), BAD);
        for (int i : new int[] {-2, 2, Due.LEAST, Due.MOST}) {
            Due.due("hush(0, " + i + ")", x.hush(0, i), BAD);
            Due.due("free(0, 0, " + i + ")", x.free(0, 0, i), BAD);
        }
        for (int i : new int[] {-1, 2, Due.LEAST, Due.MOST}) Due.due("calm(" + i + ")", x.calm(i), BAD);
        for (int i : new int[] {-1, 4, Due.LEAST, Due.MOST}) Due.due("free(" + i + ", 0, 0)", x.free(i, 0, 0), BAD);
        for (int i : new int[] {-1, 100, Due.LEAST, Due.MOST}) Due.due("free(0, " + i + ", 0)", x.free(0, i, 0), BAD);
        Due.due("breath(1, 1)", x.breath(1, 1), 1);
        Due.due("stand(1)", x.stand(1), 0);
    }

    public static void main(String[] args) {
        breaths();
        aims();
        stands();
        hushes();
        hushedRows();
        calms();
        frees();
        freedRows();
        eighths();
        kinds();
        allWinds();
        anew();
        refusals();
        Due.finish();
    }
}
