/** For each promise of the document: ordinary calls, its edges, wrong calls; answers worked out by hand. */
public final class PromiseTest {
    private static final int NONE = -1, BAD = -2, NOT = -3, FULL = -4;
    private static final int NULL = -11, INDEX = -12, CAST = -13, STORE = -14, SIZE = -15;
    private static final int LEAST = Integer.MIN_VALUE, MOST = Integer.MAX_VALUE;
    private static int wrong = 0, checks = 0;
    private static int promise = 0;

    private static void due(String call, long got, long want) {
        checks++;
        if (got != want) {
            wrong++;
            System.out.println("promise " + promise + ": " + call + " answered " + got + ", due is " + want);
        }
    }

    private static void type(SmokeRings x, int text, String s) {
        for (char b : s.toCharArray()) x.type(text, b);
    }

    private static void retype(SmokeRings x, int text, String s) {
        x.wipe(text);
        type(x, text, s);
    }

    private static SmokeRings with(String valley, String things, String wind) {
        SmokeRings x = new SmokeRings();
        type(x, 0, valley);
        type(x, 1, things);
        type(x, 2, wind);
        return x;
    }

    private static void dueAt(SmokeRings x, int step, int ring, int... look) {
        for (int what = 0; what < 4; what++) {
            due("at(" + step + ", " + ring + ", " + what + ")", x.at(step, ring, what), look[what]);
        }
    }

    private static void newObject() {
        promise = 1;
        SmokeRings x = new SmokeRings();
        for (int what = 0; what <= 8; what++) due("count(" + what + ")", x.count(what), 0);
        due("cell(0)", x.cell(0), NONE);
        due("thing(0, 0)", x.thing(0, 0), BAD);
        for (int step = 0; step < 20; step++) due("wind", x.wind(step), NONE);
        due("back()", x.back(), NOT);
        for (int s = 0; s < 4; s++) due("lose(" + s + ")", x.lose(s), NULL);
        due("widens(3)", x.widens(3), 2);
    }

    private static void typing() {
        promise = 2;
        SmokeRings x = new SmokeRings();
        due("type(0, 0)", x.type(0, 0), 1);
        due("type(0, 255)", x.type(0, 255), 2);
        due("type(0, -1)", x.type(0, -1), BAD);
        due("type(0, 256)", x.type(0, 256), BAD);
        due("type(-1, 46)", x.type(-1, 46), BAD);
        due("type(3, 46)", x.type(3, 46), BAD);
        due("type(LEAST, MOST)", x.type(LEAST, MOST), BAD);
        due("count(2)", x.count(2), 2);
        int[] rooms = {41, 39, 20};
        for (int text = 0; text < 3; text++) {
            x.wipe(text);
            for (int n = 1; n <= rooms[text]; n++) due("type(" + text + ", 'n')", x.type(text, 'n'), n);
            due("type of one too many", x.type(text, 'n'), FULL);
            due("type of a wrong one too many", x.type(text, 256), BAD);
            due("count of bytes", x.count(2 + text), rooms[text]);
        }
    }

    private static void wiping() {
        promise = 3;
        SmokeRings x = with("..;..", "", "");
        due("wipe(0)", x.wipe(0), 5);
        due("wipe(0) again", x.wipe(0), 0);
        due("fault(0) of a wiped one", x.fault(0), NONE);
        due("count(0)", x.count(0), 0);
        due("wipe(-1)", x.wipe(-1), BAD);
        due("wipe(3)", x.wipe(3), BAD);
    }

    private static void undoing() {
        promise = 4;
        SmokeRings x = with("..x", "", "");
        due("cells with a fault", x.count(0), 0);
        due("undo(0)", x.undo(0), 2);
        due("cells without", x.count(0), 2);
        due("undo(0)", x.undo(0), 1);
        due("undo(0)", x.undo(0), 0);
        due("undo(0) of none", x.undo(0), NOT);
        type(x, 2, "n");
        due("undo(2)", x.undo(2), 0);
        due("undo(-1)", x.undo(-1), BAD);
        due("undo(3)", x.undo(3), BAD);
    }

    private static void dueFaults(int text, Object... textsAndFaults) {
        for (int i = 0; i < textsAndFaults.length; i += 2) {
            SmokeRings x = new SmokeRings();
            type(x, text, (String) textsAndFaults[i]);
            due("fault of " + textsAndFaults[i], x.fault(text), (Integer) textsAndFaults[i + 1]);
        }
    }

    private static void faults() {
        promise = 5;
        dueFaults(0, "", NONE, ".", NONE, "#", NONE, "......", NONE, ".......", 6, "######;", 7, "..;.", 4, "..;.;", 4,
            "..;...", 5, ";", 0, ".;", 2, ".;;", 2, ".x", 1, "..;.x", 4, "..;..x", 5, "..;..;..", NONE, ".;.;.;.;.;.", NONE,
            ".;.;.;.;.;.;", 12, ".;.;.;.;.;.;.", 12, ".;.;.;.;.;.;;", 12, ".;.;.;.;.;.;x.", 12,
            "......;......;......;......;......;......", NONE, "......;......;......;......;......;.....x", 40,
            "......;......;......;......;......;.....", 40);
        dueFaults(1, "", NONE, "001p", NONE, "399t", NONE, "0", 1, "00", 2, "001", 3, "401p", 0, "/01p", 0, "0a1p", 1, "0:1p", 1,
            "000p", 2, "00:p", 2, "001x", 3, "001p;", 5, "001p.", 4, "001p0", 4, "001p;4", 5, "001b;001t;0", 11, ";", 0,
            "001p;001p;001p;001p;001p;001p;001p;001p", NONE, "001p;001p;001p;001p;001p;001p;001p;001", 38);
        dueFaults(2, "", NONE, "nesw.", NONE, "nx", 1, ";", 0, "N", 0, "....................", NONE, "...................,", 19);
        SmokeRings x = new SmokeRings();
        due("fault(-1)", x.fault(-1), BAD);
        due("fault(3)", x.fault(3), BAD);
    }

    private static void cells() {
        promise = 6;
        SmokeRings x = with(".#;#.;..", "", "");
        int[] want = {0, 1, 1, 0, 0, 0, NONE};
        for (int cell = 0; cell < want.length; cell++) due("cell(" + cell + ")", x.cell(cell), want[cell]);
        due("cell(35)", x.cell(35), NONE);
        due("cell(36)", x.cell(36), BAD);
        due("cell(-1)", x.cell(-1), BAD);
        type(x, 0, ";");
        due("cell(0) with a fault", x.cell(0), NONE);
    }

    private static void things() {
        promise = 7;
        SmokeRings x = with("", "051p;392b;003t", "");
        int[][] want = {{5, 1, 0}, {39, 2, 1}, {0, 3, 2}};
        for (int t = 0; t < 3; t++) {
            for (int what = 0; what < 3; what++) due("thing(" + t + ", " + what + ")", x.thing(t, what), want[t][what]);
        }
        due("thing(3, 0)", x.thing(3, 0), BAD);
        due("thing(-1, 0)", x.thing(-1, 0), BAD);
        due("thing(0, 3)", x.thing(0, 3), BAD);
        due("thing(0, -1)", x.thing(0, -1), BAD);
        type(x, 1, ";");
        due("thing(0, 0) with a fault", x.thing(0, 0), BAD);
    }

    private static void winds() {
        promise = 8;
        SmokeRings x = with("", "", "nesw.");
        int[] want = {0, 1, 2, 3, NONE, NONE};
        for (int step = 0; step < want.length; step++) due("wind(" + step + ")", x.wind(step), want[step]);
        due("wind(19)", x.wind(19), NONE);
        due("wind(20)", x.wind(20), BAD);
        due("wind(-1)", x.wind(-1), BAD);
        type(x, 2, "x");
        due("wind(0) with a fault", x.wind(0), NONE);
        retype(x, 2, "...................w");
        due("wind(19)", x.wind(19), 3);
    }

    private static void pace() {
        promise = 9;
        SmokeRings x = new SmokeRings();
        due("widens(1)", x.widens(1), 2);
        due("widens(4)", x.widens(4), 1);
        due("widens(0)", x.widens(0), BAD);
        due("widens(5)", x.widens(5), BAD);
        due("widens(4)", x.widens(4), 4);
        type(x, 0, "..");
        x.blow(0, 0, 1, 1, 0);
        due("at(19, 0, 2)", x.at(19, 0, 2), 5);
        x.widens(3);
        due("at(19, 0, 2), wider", x.at(19, 0, 2), 7);
    }

    private static void blowing() {
        promise = 10;
        SmokeRings x = new SmokeRings();
        int[][] bad = {{-1, 0, 0, 1, 0}, {20, 0, 0, 1, 0}, {0, -1, 0, 1, 0}, {0, 36, 0, 1, 0}, {0, 0, -1, 1, 0}, {0, 0, 4, 1, 0},
            {0, 0, 0, 0, 0}, {0, 0, 0, 10, 0}, {0, 0, 0, 1, -1}, {0, 0, 0, 1, 4}, {LEAST, MOST, LEAST, MOST, LEAST}};
        for (int[] b : bad) due("blow of a wrong ring", x.blow(b[0], b[1], b[2], b[3], b[4]), BAD);
        due("count(5)", x.count(5), 0);
        for (int n = 1; n <= 8; n++) due("blow", x.blow(19, 35, 3, 9, 3), n);
        due("blow of a ninth", x.blow(0, 0, 0, 1, 0), FULL);
        due("blow of a wrong ninth", x.blow(0, 0, 0, 0, 0), BAD);
        due("count(5)", x.count(5), 8);
    }

    private static void rings() {
        promise = 11;
        SmokeRings x = new SmokeRings();
        x.blow(19, 35, 3, 9, 2);
        x.blow(0, 1, 2, 4, 3);
        int[][] want = {{19, 35, 3, 9, 2}, {0, 1, 2, 4, 3}};
        for (int r = 0; r < 2; r++) {
            for (int what = 0; what < 5; what++) due("ring(" + r + ", " + what + ")", x.ring(r, what), want[r][what]);
        }
        due("ring(2, 0)", x.ring(2, 0), BAD);
        due("ring(-1, 0)", x.ring(-1, 0), BAD);
        due("ring(0, 5)", x.ring(0, 5), BAD);
        due("ring(0, -1)", x.ring(0, -1), BAD);
    }

    private static void undoneRings() {
        promise = 12;
        SmokeRings x = with(".", "001p", "");
        x.blow(0, 0, 0, 1, 1);
        due("bound(0, 2)", x.bound(0, 2), 1);
        due("back()", x.back(), 0);
        due("bound(0, 2)", x.bound(0, 2), NONE);
        due("back() of none", x.back(), NOT);
    }

    private static void fill(SmokeRings x, int s, int form, int... items) {
        x.sheet(s, form, items.length);
        for (int i = 0; i < items.length; i++) x.lay(s, form, i, items[i]);
    }

    private static void reading() {
        promise = 13;
        SmokeRings x = new SmokeRings();
        due("read(-1)", x.read(-1), BAD);
        due("read(4)", x.read(4), BAD);
        due("read(3) of one that is lost", x.read(3), NULL);
        due("count(8)", x.count(8), 1);
        fill(x, 0, 0, 1, 2, 3, 4, 3, 0, 0, 0, 1, 0, 5, 5, 1, 5);
        due("read(0), the third not whole", x.read(0), 2);
        due("ring(0, 4)", x.ring(0, 4), 3);
        due("ring(1, 3)", x.ring(1, 3), 1);
        due("ring(0, 0)", x.ring(0, 0), 1);
        due("ring(0, 1)", x.ring(0, 1), 2);
        due("ring(0, 2)", x.ring(0, 2), 3);
        due("ring(0, 3)", x.ring(0, 3), 4);
        fill(x, 1, 2, 0, 0, 0, 1, 0, 20, 0, 0, 1, 0, 0, 0, 0, 1, 0);
        due("read(1), the second not as it may be", x.read(1), 1);
        x.sheet(2, 1, 4);
        due("read(2) of too few", x.read(2), 0);
        x.sheet(2, 1, 60);
        due("read(2), none may be", x.read(2), 0);
        for (int i = 3; i < 60; i += 5) x.lay(2, 1, i, 1);
        due("read(2), as there is room", x.read(2), 5);
        due("read(2) without room", x.read(2), 0);
        due("count(5)", x.count(5), 8);
        SmokeRings y = with(".", "001p", "");
        due("missed() before", y.missed(), 0);
        fill(y, 3, 1, 0, 0, 0, 1, 2);
        due("read(3) of just one", y.read(3), 1);
        due("bound(0, 2)", y.bound(0, 2), 2);
    }

    private static void looks() {
        promise = 14;
        SmokeRings x = with("......", "", "");
        x.blow(1, 0, 1, 3, 2);
        x.blow(0, 5, 1, 2, 0);
        x.blow(2, 6, 1, 7, 0);
        dueAt(x, 0, 0, 0, NONE, 0, 3);
        dueAt(x, 1, 0, 1, 0, 1, 3);
        dueAt(x, 2, 0, 1, 1, 1, 2);
        dueAt(x, 3, 0, 1, 2, 2, 1);
        dueAt(x, 4, 0, 1, 3, 2, 0);
        dueAt(x, 5, 0, 1, 3, 3, 0);
        dueAt(x, 18, 0, 1, 3, 9, 0);
        dueAt(x, 19, 0, 4, 3, 10, 0);
        dueAt(x, 0, 1, 1, 5, 1, 2);
        dueAt(x, 1, 1, 3, 5, 1, 1);
        dueAt(x, 19, 1, 3, 5, 1, 1);
        dueAt(x, 1, 2, 0, NONE, 0, 7);
        dueAt(x, 2, 2, 3, NONE, 1, 7);
        due("at(20, 0, 0)", x.at(20, 0, 0), BAD);
        due("at(-1, 0, 0)", x.at(-1, 0, 0), BAD);
        due("at(0, 3, 0)", x.at(0, 3, 0), BAD);
        due("at(0, -1, 0)", x.at(0, -1, 0), BAD);
        due("at(0, 0, 4)", x.at(0, 0, 4), BAD);
        due("at(0, 0, -1)", x.at(0, 0, -1), BAD);
        for (int r = 3; r < 8; r++) x.blow(19, r - 3, 1, r, 0);
        dueAt(x, 19, 7, 1, 4, 1, 7);
        dueAt(x, 18, 7, 0, NONE, 0, 7);
    }

    private static void windsAndWalls() {
        promise = 14;
        SmokeRings x = with("...;.#.", "", "w.s");
        x.blow(0, 0, 1, 9, 0);
        x.blow(0, 4, 1, 9, 0);
        dueAt(x, 0, 0, 1, 0, 1, 9);
        dueAt(x, 0, 1, 3, 4, 1, 9);
        dueAt(x, 1, 0, 1, 1, 1, 8);
        dueAt(x, 2, 0, 1, 5, 2, 7);
        dueAt(x, 3, 0, 3, 5, 2, 6);
        retype(x, 2, ".s");
        dueAt(x, 1, 0, 3, 1, 1, 8);
        retype(x, 2, "..........nesw");
        x.back();
        x.back();
        x.blow(9, 3, 0, 1, 0);
        dueAt(x, 10, 0, 3, 0, 1, 0);
        retype(x, 2, ".eswn");
        x.blow(0, 1, 3, 1, 0);
        dueAt(x, 1, 1, 1, 1, 1, 0);
        dueAt(x, 2, 1, 3, 1, 1, 0);
        retype(x, 2, ".wsnew");
        dueAt(x, 1, 1, 3, 0, 1, 0);
        retype(x, 2, ".....w...");
        dueAt(x, 4, 1, 1, 0, 3, 0);
        dueAt(x, 5, 1, 3, 0, 3, 0);
        // it may move, and break, in the step in which it would fade
        x.widens(1);
        retype(x, 2, ".........e");
        dueAt(x, 9, 1, 4, 1, 10, 0);
        retype(x, 2, ".........n");
        dueAt(x, 9, 1, 3, 0, 9, 0);
        // a row's end is an edge, though the next row begins behind it
        SmokeRings y = with("..;..;..", "", "");
        y.blow(0, 2, 3, 1, 0);
        y.blow(0, 1, 1, 1, 0);
        y.blow(0, 4, 2, 1, 0);
        y.blow(5, 0, 0, 1, 0);
        dueAt(y, 1, 0, 3, 2, 1, 0);
        dueAt(y, 1, 1, 3, 1, 1, 0);
        dueAt(y, 1, 2, 3, 4, 1, 0);
        dueAt(y, 6, 3, 3, 0, 1, 0);
        retype(y, 2, ".....eww");
        y.blow(4, 3, 0, 1, 0);
        dueAt(y, 5, 4, 3, 1, 1, 0);
    }

    private static void meetings() {
        promise = 14;
        SmokeRings x = with("....", "", "");
        x.blow(0, 0, 1, 1, 0);
        x.blow(2, 0, 1, 1, 1);
        x.blow(2, 2, 3, 1, 2);
        dueAt(x, 3, 0, 1, 1, 2, 0);
        dueAt(x, 3, 1, 3, 1, 1, 0);
        dueAt(x, 3, 2, 3, 1, 1, 0);
        dueAt(x, 19, 1, 3, 1, 1, 0);
        // what breaks as it meets falls over nothing
        type(x, 1, "011p;011p");
        due("bound(0, 0)", x.bound(0, 0), 0);
        due("bound(1, 0)", x.bound(1, 0), NONE);
        // rings that go past each other between two cells do not meet
        SmokeRings y = with("..", "", "");
        y.blow(0, 0, 1, 1, 0);
        y.blow(0, 1, 3, 1, 0);
        dueAt(y, 1, 0, 1, 1, 1, 0);
        dueAt(y, 1, 1, 1, 0, 1, 0);
    }

    private static void dueBound(String things, int widens, int... steps) {
        SmokeRings x = with("......", things, "");
        x.widens(widens);
        x.blow(0, 0, 1, 5, 2);
        for (int t = 0; t < steps.length; t++) {
            due("bound(" + t + ", 1) of " + things, x.bound(t, 1), steps[t]);
        }
    }

    private static void bounds() {
        promise = 15;
        // widening 1 a step it is 6 wide as it comes to cell 5, in step 5
        dueBound("051p", 1, 5);
        dueBound("056p", 1, 5);
        dueBound("057p", 1, 6);
        dueBound("059p", 1, 8);
        dueBound("054b", 1, NONE);
        dueBound("055b", 1, 5);
        dueBound("056b", 1, 5);
        dueBound("057b", 1, 6);
        dueBound("052t", 1, NONE);
        dueBound("053t", 1, 5);
        dueBound("056t", 1, 5);
        dueBound("059t", 1, 8);
        dueBound("051b;051t;059p;058p", 1, NONE, NONE, NONE, 7);
        dueBound("051p;051p", 1, 5, NONE);
        dueBound("021p;051p", 1, 2, NONE);
        dueBound("001p", 1, 0);
        dueBound("361p", 1, NONE);
        SmokeRings x = with("....", "011p", "");
        x.blow(2, 0, 1, 1, 3);
        x.blow(1, 3, 3, 3, 1);
        due("bound(0, 0), the lesser of two that come", x.bound(0, 0), 0);
        due("bound(0, 1)", x.bound(0, 1), 3);
        due("bound(0, 2)", x.bound(0, 2), 3);
        dueAt(x, 3, 0, 2, 1, 1, 0);
        dueAt(x, 3, 1, 1, 1, 2, 1);
        dueAt(x, 19, 0, 2, 1, 1, 0);
        due("bound(1, 0)", x.bound(1, 0), BAD);
        due("bound(-1, 0)", x.bound(-1, 0), BAD);
        due("bound(0, 3)", x.bound(0, 3), BAD);
        due("bound(0, -1)", x.bound(0, -1), BAD);
        type(x, 1, ";011t");
        due("bound(1, 0), the next one", x.bound(1, 0), 1);
        due("bound(1, 1)", x.bound(1, 1), 3);
    }

    /** A person 2 thick, a beast 3, a thing 4, on cells 0 to 2, bound in steps 1 to 3 to whom it is told; another on cell 4. */
    private static SmokeRings household(int... whom) {
        SmokeRings x = with(".....", "002p;013b;024t;041p", "");
        x.widens(1);
        for (int t = 0; t < whom.length; t++) {
            // from the next cell, with breath to come here and wait until it is wide enough
            if (whom[t] != NONE) x.blow(0, t + 1, 3, 1, whom[t]);
        }
        return x;
    }

    private static void weddings() {
        promise = 16;
        SmokeRings x = household(2, 2, 2);
        due("wed(2, 0)", x.wed(2, 0), 7);
        due("wed(2, 1)", x.wed(2, 1), 16);
        due("wed(0, 0)", x.wed(0, 0), 0);
        due("wed(0, 1)", x.wed(0, 1), 0);
        x = household(3, 0, 3);
        due("wed(3, 0)", x.wed(3, 0), 5);
        due("wed(3, 1)", x.wed(3, 1), 10);
        due("wed(0, 1)", x.wed(0, 1), 6);
        due("wed(-1, 0)", x.wed(-1, 0), BAD);
        due("wed(4, 0)", x.wed(4, 0), BAD);
        due("wed(0, 2)", x.wed(0, 2), BAD);
        due("wed(0, -1)", x.wed(0, -1), BAD);
    }

    private static void passages() {
        promise = 17;
        SmokeRings x = with("....", "", "");
        due("throughs(0)", x.throughs(0), 0);
        due("throughs(1)", x.throughs(1), NONE);
        x.blow(0, 0, 1, 1, 0);
        x.blow(2, 0, 1, 1, 1);
        due("throughs(0), steps 3 to 17", x.throughs(0), 15);
        due("throughs(1)", x.throughs(1), 3);
        x.blow(2, 2, 3, 1, 2);
        due("throughs(0), with two that break", x.throughs(0), 2);
        due("throughs(1)", x.throughs(1), 3);
        x.back();
        x.back();
        due("throughs(0), undone", x.throughs(0), 0);
        due("throughs(1), undone", x.throughs(1), NONE);
        due("throughs(2)", x.throughs(2), BAD);
        due("throughs(-1)", x.throughs(-1), BAD);
    }

    private static void misses() {
        promise = 18;
        SmokeRings x = new SmokeRings();
        due("missed() of none", x.missed(), 0);
        x = household(1, 1, 1);
        x.blow(19, 4, 0, 1, 0);
        due("missed(), one got in step 19", x.missed(), 0);
        x.blow(19, 0, 0, 1, 0);
        x.blow(0, 30, 0, 1, 0);
        due("missed()", x.missed(), 48);
    }

    private static void riches() {
        promise = 19;
        due("richest() of none", new SmokeRings().richest(), NONE);
        due("richest()", household(3, 1, 1).richest(), 1);
        due("richest() of like ones", household(3, 2, NONE).richest(), 2);
        due("richest() by number, not by upkeep", household(0, 3, 3).richest(), 3);
    }

    private static void loneliness() {
        promise = 20;
        due("lonely() of none", new SmokeRings().lonely(), NONE);
        due("lonely()", household(0, 0, 0).lonely(), 2);
        due("lonely()", household(0, 0).lonely(), 1);
        SmokeRings x = with("....", "011p;021p", "");
        x.blow(5, 2, 0, 1, 0);
        x.blow(5, 1, 0, 1, 0);
        due("lonely() of like steps", x.lonely(), 0);
        x.blow(1, 1, 0, 1, 0);
        due("lonely()", x.lonely(), 1);
        x.blow(0, 2, 0, 1, 0);
        x.blow(0, 1, 0, 1, 0);
        due("lonely(), both in step 0", x.lonely(), 0);
    }

    private static void breaths() {
        promise = 21;
        SmokeRings x = with("......", "031p;053b;001t;043t", "");
        x.blow(2, 1, 1, 9, 0);
        due("breath(0, 0)", x.breath(0, 0), 2);
        due("breath(0, 1), behind thing 0", x.breath(0, 1), NONE);
        due("breath(0, 2), where it is not", x.breath(0, 2), NONE);
        retype(x, 1, "033t;056p");
        due("breath(0, 0), to wait there", x.breath(0, 0), 2);
        due("breath(0, 1), to wait there", x.breath(0, 1), 4);
        // another ring has it with the breath that this one wants
        x.blow(0, 2, 1, 1, 3);
        due("breath(0, 0), by another", x.breath(0, 0), NONE);
        due("breath(1, 0)", x.breath(1, 0), 1);
        due("ring(0, 3) as it was", x.ring(0, 3), 9);
        due("breath(2, 0)", x.breath(2, 0), BAD);
        due("breath(-1, 0)", x.breath(-1, 0), BAD);
        due("breath(0, 2)", x.breath(0, 2), BAD);
        due("breath(0, -1)", x.breath(0, -1), BAD);
        SmokeRings y = with("......", "059p", "");
        y.widens(1);
        y.blow(0, 0, 1, 1, 0);
        due("breath(0, 0)", y.breath(0, 0), 5);
        retype(y, 2, ".wwwwwwwwww");
        due("breath(0, 0) against the wind, most of it", y.breath(0, 0), NONE);
        retype(y, 0, "..");
        retype(y, 1, "019p");
        retype(y, 2, "..w.w.w.w");
        due("breath(0, 0), 8 steps to wait", y.breath(0, 0), NONE);
        retype(y, 1, "007p");
        retype(y, 2, ".wwwwwwww");
        due("breath(0, 0), held by the wind", y.breath(0, 0), 6);
        y.widens(3);
        retype(y, 1, "004b");
        retype(y, 2, ".wwwwwwwwww");
        due("breath(0, 0), held by the wind for 9 steps", y.breath(0, 0), 9);
        due("aim(0, 1), held by the wind for 9 steps", y.aim(0, 1), 9);
        y.widens(1);
        due("breath(0, 0) of a beast", y.breath(0, 0), 3);
    }

    private static void aims() {
        promise = 22;
        SmokeRings x = with("...;...;...", "", "");
        x.blow(0, 4, 3, 7, 0);
        due("aim(0, 0) without things", x.aim(0, 0), 0);
        due("aim(0, 1) without things", x.aim(0, 1), 1);
        due("aim(0, 2) without things", x.aim(0, 2), 0);
        type(x, 1, "071p;031p");
        due("aim(0, 0), the lesser way", x.aim(0, 0), 2);
        due("aim(0, 1)", x.aim(0, 1), 1);
        due("aim(0, 2)", x.aim(0, 2), 1);
        retype(x, 1, "054p;032p;041b");
        due("aim(0, 2), got where it is blown", x.aim(0, 2), 1);
        due("aim(0, 0)", x.aim(0, 0), 0);
        // most in all: if it broke the other ring there would be none
        retype(x, 1, "001p");
        x.blow(0, 1, 3, 2, 1);
        due("aim(0, 2), not in the other's way", x.aim(0, 2), 1);
        due("aim(0, 0)", x.aim(0, 0), 0);
        due("ring(0, 2) as it was", x.ring(0, 2), 3);
        due("aim(2, 0)", x.aim(2, 0), BAD);
        due("aim(-1, 0)", x.aim(-1, 0), BAD);
        due("aim(0, 3)", x.aim(0, 3), BAD);
        due("aim(0, -1)", x.aim(0, -1), BAD);
        SmokeRings y = with("......", "057t", "");
        y.widens(1);
        y.blow(0, 0, 0, 1, 0);
        due("aim(0, 0), far off", y.aim(0, 0), 1);
        due("aim(0, 1), far off", y.aim(0, 1), 5);
    }

    private static void standing() {
        promise = 23;
        SmokeRings x = with("#...", "021p", "");
        due("stand(0), not bound at all", x.stand(0), 1);
        x.blow(0, 1, 1, 1, 0);
        due("stand(0)", x.stand(0), 3);
        x.blow(0, 3, 0, 1, 0);
        due("stand(0), nowhere", x.stand(0), NONE);
        due("thing(0, 0) as it was", x.thing(0, 0), 2);
        due("stand(1)", x.stand(1), BAD);
        due("stand(-1)", x.stand(-1), BAD);
        retype(x, 1, "391p;011t");
        due("stand(0), behind a greater one", x.stand(0), 2);
        retype(x, 1, "011t;391p");
        due("stand(1), behind a lesser one", x.stand(1), 1);
        x.wipe(0);
        due("stand(0) without cells", x.stand(0), NONE);
    }

    private static void hushing() {
        promise = 24;
        SmokeRings x = with("..", "001p", "");
        due("hush(0, NONE), not bound", x.hush(0, NONE), 0);
        due("hush(0, 0), not bound", x.hush(0, 0), NONE);
        x.blow(3, 1, 0, 1, 0);
        x.blow(0, 0, 0, 1, 0);
        due("hush(0, NONE)", x.hush(0, NONE), 1);
        due("hush(0, 0)", x.hush(0, 0), 1);
        due("hush(0, 1)", x.hush(0, 1), NONE);
        x.back();
        x.back();
        x.blow(3, 0, 0, 1, 0);
        x.blow(0, 0, 0, 1, 0);
        due("hush(0, 0)", x.hush(0, 0), 0);
        due("hush(0, 1)", x.hush(0, 1), 1);
        x.back();
        x.back();
        x.blow(3, 1, 0, 1, 0);
        x.blow(0, 0, 0, 1, 0);
        x.blow(2, 0, 0, 1, 0);
        due("hush(0, NONE)", x.hush(0, NONE), 2);
        due("hush(0, 0)", x.hush(0, 0), 1);
        due("hush(0, 1)", x.hush(0, 1), 2);
        x.blow(4, 0, 0, 1, 0);
        due("hush(0, NONE), too many", x.hush(0, NONE), NONE);
        due("hush(0, 0), too many", x.hush(0, 0), NONE);
        due("hush(0, 1), too many", x.hush(0, 1), NONE);
        due("hush(0, 2)", x.hush(0, 2), BAD);
        due("hush(0, -2)", x.hush(0, -2), BAD);
        due("hush(1, 0)", x.hush(1, 0), BAD);
        due("hush(-1, 0)", x.hush(-1, 0), BAD);
    }

    private static void calms() {
        promise = 25;
        SmokeRings x = with("...", "021p", ".e.ww");
        x.blow(2, 0, 1, 3, 0);
        due("calm(0), step 3 or 4", x.calm(0), 3);
        due("calm(1)", x.calm(1), 1);
        retype(x, 2, ".ewww");
        due("calm(0)", x.calm(0), 3);
        retype(x, 2, "...wwww");
        due("calm(0), one step is not enough", x.calm(0), 0);
        due("calm(1), one step is not enough", x.calm(1), 0);
        retype(x, 2, ".ewww");
        due("wind(3) as it was", x.wind(3), 3);
        retype(x, 2, "");
        due("calm(0), no better", x.calm(0), 0);
        due("calm(1), no better", x.calm(1), 1);
        retype(x, 2, "...................n");
        retype(x, 1, "021p;011p");
        x.back();
        x.blow(18, 0, 1, 1, 0);
        due("calm(0), the last step", x.calm(0), 19);
        due("calm(1), the last step", x.calm(1), 1);
        due("calm(2)", x.calm(2), BAD);
        due("calm(-1)", x.calm(-1), BAD);
    }

    private static void freeing() {
        promise = 26;
        SmokeRings x = household(1, 1, 1);
        int[][] want = {{16, 0, NONE, NONE}, {15, 1, 0, NONE}, {10, 1, 0, NONE}, {9, 2, 0, 1}, {4, 2, 0, 1}, {3, NONE, NONE, NONE},
            {0, NONE, NONE, NONE}, {99, 0, NONE, NONE}};
        for (int[] w : want) {
            for (int i = -1; i < 2; i++) due("free(1, " + w[0] + ", " + i + ")", x.free(1, w[0], i), w[i + 2]);
        }
        x = household(1, 0, 1);
        due("free(1, 4, 0), thing 0", x.free(1, 4, 0), 0);
        due("free(1, 6, 0), thing 0", x.free(1, 6, 0), 0);
        due("free(1, 3, 1), thing 2", x.free(1, 3, 1), 2);
        due("free(0, 5, 0), thing 1", x.free(0, 5, 0), 1);
        due("free(2, 0, NONE), nothing", x.free(2, 0, NONE), 0);
        x = household(0, 3, 3);
        due("free(3, 0, NONE), things 1 and 2", x.free(3, 0, NONE), 2);
        due("free(3, 0, 0), things 1 and 2", x.free(3, 0, 0), 1);
        due("free(3, 0, 1), things 1 and 2", x.free(3, 0, 1), 2);
        due("free(3, 4, 0), thing 1", x.free(3, 4, 0), 1);
        due("free(-1, 0, 0)", x.free(-1, 0, 0), BAD);
        due("free(4, 0, 0)", x.free(4, 0, 0), BAD);
        due("free(0, -1, 0)", x.free(0, -1, 0), BAD);
        due("free(0, 100, 0)", x.free(0, 100, 0), BAD);
        due("free(0, 0, -2)", x.free(0, 0, -2), BAD);
        due("free(0, 0, 2)", x.free(0, 0, 2), BAD);
    }

    private static void seeing() {
        promise = 27;
        SmokeRings x = new SmokeRings();
        due("seen(-1, 0)", x.seen(-1, 0), BAD);
        due("seen(8, 0)", x.seen(8, 0), BAD);
        due("seen(0, -1)", x.seen(0, -1), BAD);
        due("seen(0, 5)", x.seen(0, 5), BAD);
        for (int n = 1; n <= 8; n++) due("seen(7, 4)", x.seen(7, 4), n);
        due("seen of a ninth", x.seen(0, 0), FULL);
        due("seen of a wrong ninth", x.seen(8, 0), BAD);
        due("count(7)", x.count(7), 8);
        promise = 28;
        due("forget()", x.forget(), 8);
        due("forget() again", x.forget(), 0);
        due("count(7)", x.count(7), 0);
    }

    private static void neverBlown() {
        promise = 29;
        due("never() of none", new SmokeRings().never(), 0);
        SmokeRings x = with("..", "001p;011p", "");
        x.blow(0, 0, 0, 1, 0);
        x.blow(0, 1, 0, 1, 1);
        x.blow(5, 0, 0, 1, 2);
        due("never() with nothing seen", x.never(), 7);
        x.seen(0, 2);
        due("never()", x.never(), 1);
        x.seen(1, 1);
        due("never()", x.never(), 1);
        x.seen(1, 4);
        due("never() of what cannot be", x.never(), 0);
        x.forget();
        x.seen(1, 4);
        due("never() but for which it is free", x.never(), 2);
        x.forget();
        x.seen(0, 0);
        due("never()", x.never(), 6);
        x.seen(2, 4);
        due("never() by a thing that there is not", x.never(), 0);
        for (int whom = 0; whom < 4; whom++) {
            x.forget();
            x.seen(2, whom);
            due("never() by a thing that there is not", x.never(), 0);
        }
    }

    private static void whences() {
        promise = 30;
        SmokeRings x = with("..#.", "001p;011p", "");
        x.blow(0, 0, 3, 1, 2);
        due("whence(0, NONE), nothing seen, walls too", x.whence(0, NONE), 4);
        due("whence(0, 3)", x.whence(0, 3), 3);
        due("whence(0, 4)", x.whence(0, 4), NONE);
        x.seen(0, 4);
        due("whence(0, NONE)", x.whence(0, NONE), 3);
        due("whence(0, 0)", x.whence(0, 0), 1);
        due("whence(0, 1), a wall", x.whence(0, 1), 2);
        due("whence(0, 2)", x.whence(0, 2), 3);
        due("whence(0, 35)", x.whence(0, 35), NONE);
        x.seen(1, 2);
        due("whence(0, NONE)", x.whence(0, NONE), 1);
        due("whence(0, 0)", x.whence(0, 0), 1);
        due("ring(0, 1) as it was", x.ring(0, 1), 0);
        due("whence(1, 0)", x.whence(1, 0), BAD);
        due("whence(-1, 0)", x.whence(-1, 0), BAD);
        due("whence(0, 36)", x.whence(0, 36), BAD);
        due("whence(0, -2)", x.whence(0, -2), BAD);
        x.wipe(0);
        x.forget();
        due("whence(0, NONE) without cells", x.whence(0, NONE), 0);
        due("whence(0, 0) without cells", x.whence(0, 0), NONE);
    }

    private static void allPaces() {
        promise = 31;
        SmokeRings x = with("......", "033p", "");
        due("paces(), nothing seen", x.paces(), 30);
        x.blow(15, 1, 1, 2, 0);
        x.seen(0, 0);
        due("paces(), 2 wider within 4 steps", x.paces(), 6);
        due("widens as it was", x.widens(2), 2);
        x.forget();
        x.seen(0, 4);
        due("paces()", x.paces(), 24);
        x.seen(1, 4);
        due("paces() by a thing that there is not", x.paces(), 0);
    }

    private static void asking() {
        promise = 32;
        due("ask() without things", new SmokeRings().ask(), NONE);
        SmokeRings x = with("...", "001p;011p;021p", "");
        due("ask() without rings", x.ask(), 0);
        x.blow(0, 0, 0, 1, 0);
        x.blow(0, 1, 0, 1, 1);
        x.blow(5, 1, 0, 1, 2);
        // thing 0: free, 0, 0; thing 1: 1, 2, 1; thing 2 never
        due("ask(), 2 to 1 for both", x.ask(), 0);
        x.blow(5, 0, 0, 1, 3);
        // thing 0: 3, 0, 0, 0; thing 1: 1, 2, 1, 1
        due("ask()", x.ask(), 0);
        x.seen(0, 0);
        // of rings 1, 2, 3: thing 0 always by 0; thing 1: 2, 1, 1
        due("ask() behind what was seen", x.ask(), 1);
        x.forget();
        x.seen(0, 1);
        due("ask() of what cannot be", x.ask(), 0);
        SmokeRings y = with(".", "001t", "");
        for (int r = 0; r < 8; r++) y.blow(r, 0, 0, 1, 1);
        y.back();
        due("ask() of 7 rings", y.ask(), 0);
        SmokeRings z = with(".", "009t", "");
        for (int r = 0; r < 8; r++) z.blow(r, 0, 0, 1, 1);
        due("ask() of 8 like ones", z.ask(), 0);
    }

    private static void dueStill(SmokeRings x, int c, int last, int whom, long above, long below) {
        due("still(" + c + ", " + last + "), above", x.still(c, last, 0, whom, 0), above);
        due("still(" + c + ", " + last + "), below", x.still(c, last, 0, whom, 1), below);
    }

    private static void stillness() {
        promise = 33;
        SmokeRings x = with("...", "021p", ".wee");
        x.blow(0, 1, 1, 1, 3);
        // it comes to cell 2 in step 1 if that is calm; else it is back on 1 and is there in step 2, if that is not
        dueStill(x, 4, 0, 3, 1, 1);
        dueStill(x, 4, 1, 3, 1, 1);
        dueStill(x, 4, 2, 3, 1, 1);
        dueStill(x, 4, 3, 3, 61, 64);
        dueStill(x, 1, 9, 3, 4081, 4096);
        dueStill(x, 16, 9, 3, 1, 1);
        dueStill(x, 0, 9, 3, 1, 1);
        dueStill(x, 8, 9, 0, 0, 1);
        retype(x, 2, ".w");
        dueStill(x, 6, 1, 3, 3, 8);
        dueStill(x, 5, 1, 3, 5, 16);
        dueStill(x, 0, 1, 3, 0, 1);
        dueStill(x, 16, 1, 3, 1, 1);
        dueStill(x, 5, 0, 3, 0, 1);
        // ten steps against it, each of which must be calm
        SmokeRings y = with("......;......", "003p", "ssssssssss");
        y.widens(4);
        y.blow(0, 1, 3, 1, 1);
        y.blow(8, 1, 3, 1, 0);
        // steps 1 to 8: it is on cell 0 and 3 wide in step 8
        due("still of 8 calm steps, above", y.still(3, 9, 0, 1, 0), 6561);
        due("still of 8 calm steps, below", y.still(3, 9, 0, 1, 1), 1L << 32);
        // the tenth step, and wind from the south
        retype(y, 1, "011p");
        retype(y, 2, "nnnnnnnnnn");
        y.back();
        y.back();
        y.blow(8, 13, 0, 1, 2);
        due("still: no such cell", y.still(3, 9, 0, 2, 0), 0);
        y.back();
        y.blow(8, 7, 0, 1, 2);
        due("still of the tenth step, above", y.still(3, 9, 0, 2, 0), 3);
        due("still of the tenth step, below", y.still(3, 9, 0, 2, 1), 16);
        due("still of nine steps, above", y.still(3, 8, 0, 2, 0), 0);
        long least = Long.MIN_VALUE;
        due("still(-1, ..)", x.still(-1, 0, 0, 0, 0), least + 2);
        due("still(17, ..)", x.still(17, 0, 0, 0, 0), least + 2);
        due("still(0, -1, ..)", x.still(0, -1, 0, 0, 0), least + 2);
        due("still(0, 10, ..)", x.still(0, 10, 0, 0, 0), least + 2);
        due("still(0, 0, -1, ..)", x.still(0, 0, -1, 0, 0), least + 2);
        due("still(0, 0, 1, ..)", x.still(0, 0, 1, 0, 0), least + 2);
        due("still(0, 0, 0, -1, 0)", x.still(0, 0, 0, -1, 0), least + 2);
        due("still(0, 0, 0, 4, 0)", x.still(0, 0, 0, 4, 0), least + 2);
        due("still(0, 0, 0, 0, -1)", x.still(0, 0, 0, 0, -1), least + 2);
        due("still(0, 0, 0, 0, 2)", x.still(0, 0, 0, 0, 2), least + 2);
    }

    private static void evenings() {
        promise = 34;
        // of one cell each lot is that: the first ring falls, each other one leaves it in the next step and breaks
        SmokeRings x = with(".", "001p", "");
        x.blow(3, 0, 0, 1, 3);
        due("evening(0, 1, 0)", x.evening(0, 1, 0), 1);
        due("evening(0, 1, 1)", x.evening(0, 1, 1), 0);
        due("evening(0, 3, 0)", x.evening(0, 3, 0), 1);
        due("evening(0, 3, 1), the others break", x.evening(0, 3, 1), 2);
        due("evening(-1, 8, 1)", x.evening(-1, 8, 1), 7);
        due("count(5) as it was", x.count(5), 1);
        due("bound(0, 2) as it was", x.bound(0, 2), 3);
        retype(x, 0, "#");
        due("evening(0, 8, 1), on a wall", x.evening(0, 8, 1), 8);
        x.wipe(0);
        due("evening(0, 8, 0) without cells", x.evening(0, 8, 0), 0);
        due("evening(0, 8, 1) without cells", x.evening(0, 8, 1), 0);
        due("evening(0, 0, 0)", x.evening(0, 0, 0), BAD);
        due("evening(0, 9, 0)", x.evening(0, 9, 0), BAD);
        due("evening(0, 1, 2)", x.evening(0, 1, 2), BAD);
        due("evening(0, 1, -1)", x.evening(0, 1, -1), BAD);
        // seed 122 makes 22657, 38233, 58096: of 36 cells 13, of 4 ways 1, of 9 breaths 1, and 1
        SmokeRings y = with("......;......;......;......;......;......", "154p", "");
        due("evening(122, 1, 0), where it stops", y.evening(122, 1, 0), 1);
        retype(y, 1, "144p");
        due("evening(122, 1, 0), where it passes", y.evening(122, 1, 0), 0);
        retype(y, 1, "131b;151p;151p");
        due("evening(122, 1, 0), where it is blown", y.evening(122, 1, 0), 1);
        y.widens(1);
        retype(y, 1, "159p");
        retype(y, 2, "e.......");
        due("evening(122, 1, 0), 9 wide", y.evening(122, 1, 0), 1);
        retype(y, 2, "...eee");
        due("evening(122, 1, 1), by the wind", y.evening(122, 1, 1), 1);
        // seed 7 makes 52332, 9806, 10868, then 22674, 32531, 36133: from 0 to the south, from 0 to the west, of 3 cells
        SmokeRings z = with(".;.;.", "024p;001p;001p", "");
        due("evening(7, 1, 0)", z.evening(7, 1, 0), 1);
        due("evening(7, 2, 0), one a step", z.evening(7, 2, 0), 2);
        retype(z, 1, "022p;011p");
        due("evening(7, 1, 0)", z.evening(7, 1, 0), 1);
        due("evening(7, 2, 1), the second breaks", z.evening(7, 2, 1), 1);
    }

    private static void sheets() {
        promise = 35;
        SmokeRings x = new SmokeRings();
        due("sheet(0, 0, 0)", x.sheet(0, 0, 0), 0);
        due("sheet(3, 2, 60)", x.sheet(3, 2, 60), 60);
        due("sheet(3, 2, 61)", x.sheet(3, 2, 61), BAD);
        due("sheet(-1, 0, 0)", x.sheet(-1, 0, 0), BAD);
        due("sheet(4, 0, -1)", x.sheet(4, 0, -1), BAD);
        due("sheet(0, 3, -1)", x.sheet(0, 3, -1), BAD);
        due("sheet(0, -1, 0)", x.sheet(0, -1, 0), BAD);
        due("count(8)", x.count(8), 0);
        due("sheet(0, 0, -1)", x.sheet(0, 0, -1), SIZE);
        due("sheet(3, 0, LEAST)", x.sheet(3, 0, LEAST), SIZE);
        due("count(8)", x.count(8), 5);
        due("lose(3), as it was", x.lose(3), 60);
        x.sheet(1, 2, 2);
        x.lay(1, 2, 1, 9);
        x.sheet(1, 2, 2);
        due("get(1, 2, 1) of a new one", x.get(1, 2, 1), 0);
        promise = 36;
        due("lose(1)", x.lose(1), 2);
        due("lose(1) again", x.lose(1), NULL);
        due("count(8)", x.count(8), 1);
        due("lose(0)", x.lose(0), 0);
        x.sheet(3, 0, 2);
        due("lay(3, 0, 1, 5)", x.lay(3, 0, 1, 5), 1);
        due("get(3, 0, 1)", x.get(3, 0, 1), 5);
        due("copy(3, 1, 3, 0, 1)", x.copy(3, 1, 3, 0, 1), 1);
        due("lose(3)", x.lose(3), 2);
        due("lose(-1)", x.lose(-1), BAD);
        due("lose(4)", x.lose(4), BAD);
    }

    private static void laying() {
        promise = 37;
        SmokeRings x = new SmokeRings();
        due("lay(0, 0, 0, 0) of one that is lost", x.lay(0, 0, 0, 0), NULL);
        for (int form = 0; form < 3; form++) {
            x.sheet(form, form, 3);
            due("lay", x.lay(form, form, 2, 0x1ffff81), 1);
            due("lay", x.lay(form, form, 0, 0x18123), 1);
            due("lay at 3", x.lay(form, form, 3, 1), INDEX);
            due("lay at -1", x.lay(form, form, -1, 1), INDEX);
            due("lay as of another form", x.lay(form, (form + 1) % 3, 9, 1), CAST);
            due("count(8)", x.count(8), 3);
        }
        due("lay(4, ..)", x.lay(4, 0, 0, 0), BAD);
        due("lay(-1, ..)", x.lay(-1, 0, 0, 0), BAD);
        due("lay(3, 3, ..)", x.lay(3, 3, 0, 0), BAD);
        due("lay(3, -1, ..)", x.lay(3, -1, 0, 0), BAD);
        promise = 38;
        due("get(0, 0, 2)", x.get(0, 0, 2), -127);
        due("get(0, 0, 0)", x.get(0, 0, 0), 0x23);
        due("get(1, 1, 2)", x.get(1, 1, 2), -127);
        due("get(1, 1, 0)", x.get(1, 1, 0), (short) 0x8123);
        due("get(2, 2, 2)", x.get(2, 2, 2), 0x1ffff81);
        due("get(2, 2, 0)", x.get(2, 2, 0), 0x18123);
        due("get(2, 2, 1)", x.get(2, 2, 1), 0);
        due("get(2, 2, 3)", x.get(2, 2, 3), LEAST);
        due("count(8)", x.count(8), 2);
        due("get(2, 1, 3)", x.get(2, 1, 3), LEAST);
        due("count(8)", x.count(8), 3);
        due("get(3, 0, 0)", x.get(3, 0, 0), LEAST);
        due("count(8)", x.count(8), 1);
        due("get(2, 2, LEAST)", x.get(2, 2, LEAST), LEAST);
        due("count(8)", x.count(8), 2);
        due("get(4, 0, 0)", x.get(4, 0, 0), LEAST);
        due("get(-1, 0, 0)", x.get(-1, 0, 0), LEAST);
        due("get(3, 3, 0)", x.get(3, 3, 0), LEAST);
        due("get(3, -1, 0)", x.get(3, -1, 0), LEAST);
        due("count(8) as it was", x.count(8), 2);
    }

    private static void dueItems(SmokeRings x, int s, int form, int... items) {
        for (int i = 0; i < items.length; i++) due("get(" + s + ", " + form + ", " + i + ")", x.get(s, form, i), items[i]);
    }

    private static void copying() {
        promise = 39;
        SmokeRings x = new SmokeRings();
        fill(x, 0, 2, 1, 2, 3, 4, 5);
        due("copy to a lost one", x.copy(0, 0, 1, 0, 1), NULL);
        due("copy of a lost one", x.copy(1, -1, 0, 0, 1), NULL);
        fill(x, 1, 1, 7, 8, 9);
        due("copy to another form", x.copy(0, -1, 1, 0, 1), STORE);
        due("count(8)", x.count(8), 4);
        fill(x, 1, 2, 7, 8, 9);
        due("copy", x.copy(1, 1, 0, 3, 2), 1);
        dueItems(x, 0, 2, 1, 2, 3, 8, 9);
        due("copy up within it", x.copy(0, 0, 0, 1, 4), 1);
        dueItems(x, 0, 2, 1, 1, 2, 3, 8);
        due("copy down within it", x.copy(0, 1, 0, 0, 4), 1);
        dueItems(x, 0, 2, 1, 2, 3, 8, 8);
        int[][] none = {{-1, 0, 1}, {0, -1, 1}, {0, 0, -1}, {5, 0, 1}, {0, 3, 1}, {4, 0, 2}, {0, 2, 2}, {6, 0, 0}, {0, 4, 0}, {0, 0, 4},
            {1, 0, MOST}, {MOST, MOST, MOST}, {LEAST, 0, 0}, {0, 0, LEAST}};
        for (int[] n : none) due("copy of no such items", x.copy(0, n[0], 1, n[1], n[2]), INDEX);
        due("copy of none at the ends", x.copy(0, 5, 1, 3, 0), 1);
        due("copy(4, ..)", x.copy(4, 0, 1, 0, 0), BAD);
        due("copy(-1, ..)", x.copy(-1, 0, 1, 0, 0), BAD);
        due("copy(2, 0, 4, ..)", x.copy(2, 0, 4, 0, 0), BAD);
        due("copy(0, 0, -1, ..)", x.copy(0, 0, -1, 0, 0), BAD);
        dueItems(x, 1, 2, 7, 8, 9);
    }

    private static void writing() {
        promise = 40;
        SmokeRings x = with("......", "", "");
        x.blow(1, 0, 1, 3, 0);
        due("write(0, 0) to a lost one", x.write(0, 0), NULL);
        due("write(1, 0)", x.write(1, 0), BAD);
        due("write(-1, 0)", x.write(-1, 0), BAD);
        due("write(0, 4)", x.write(0, 4), BAD);
        due("write(0, -1)", x.write(0, -1), BAD);
        fill(x, 0, 0, 9, 9, 9, 9, 9, 9);
        due("write(0, 0)", x.write(0, 0), 6);
        dueItems(x, 0, 0, NONE, 0, 1, 2, 3, 3);
        x.sheet(1, 2, 22);
        x.lay(1, 2, 20, 77);
        due("write(0, 1)", x.write(0, 1), 20);
        dueItems(x, 1, 2, NONE, 0, 1, 2, 3);
        due("get(1, 2, 19)", x.get(1, 2, 19), 3);
        due("get(1, 2, 20)", x.get(1, 2, 20), 77);
        x.sheet(2, 1, 0);
        due("write(0, 2)", x.write(0, 2), 0);
        x.sheet(3, 1, 3);
        due("write(0, 3)", x.write(0, 3), 3);
    }

    private static void counts() {
        promise = 41;
        SmokeRings x = with("..;..;#.", "001p;011p", "nes");
        x.blow(0, 0, 0, 1, 0);
        x.seen(0, 0);
        x.seen(0, 0);
        x.lose(0);
        int[] want = {6, 2, 8, 9, 3, 1, 1, 2, 1, BAD};
        for (int what = 0; what < want.length; what++) due("count(" + what + ")", x.count(what), want[what]);
        due("count(-1)", x.count(-1), BAD);
        type(x, 0, "x");
        due("count(0) with a fault", x.count(0), 0);
        due("count(2) with a fault", x.count(2), 9);
        due("count(6) without cells", x.count(6), 0);
        due("undo", x.undo(0), 8);
        due("count(6)", x.count(6), 1);
    }

    private static long mixed(long h, long... vs) {
        for (long v : vs) h = 31 * h + v;
        return h;
    }

    private static void digests() {
        promise = 42;
        long h = mixed(17, 0, 0, 0, 0, 0, 0, 0, 0, -1, -1, -1);
        for (int step = 0; step < 20; step++) h = mixed(h, -1);
        for (int whom = 0; whom < 4; whom++) h = mixed(h, 0, 0, 0, -1);
        h = mixed(h, 0, -1, 0, -1, -1, 0, 0, 0, 30, -1, 0, 0);
        due("digest() of a new one", new SmokeRings().digest(), h);
        SmokeRings x = with("..;#.", "031b", "..e");
        x.blow(0, 1, 2, 2, 0);
        x.seen(0, 0);
        // step 1: cell 3, 1 wide: it falls
        h = mixed(17, 4, 1, 5, 4, 3, 1, 1, 1, -1, -1, -1, 0, 0, 1, 0, -1, -1, 1);
        for (int step = 3; step < 20; step++) h = mixed(h, -1);
        h = mixed(h, 0, 1, 2, 2, 0, 1, 1, 1, 2, 2, 3, 1, 1, 2, 3, 1, 1, 2, 3, 1, 1);
        // its aim is south with breath 1, or blown from cell 3 itself
        h = mixed(h, 2, 1, 1, 1, 2, 1);
        h = mixed(h, 3, 1, 1, 0, 1, 0, 0, 1, 0, 1, 1);
        h = mixed(h, 1, 2, 0, -1);
        for (int whom = 1; whom < 4; whom++) h = mixed(h, 0, 0, 0, -1);
        h = mixed(h, 0, -1, 0, 0, 0, 0, 1, 0, 30, 0, x.evening(7, 6, 0), x.evening(7, 6, 1));
        due("digest()", x.digest(), h);
        due("digest() again", x.digest(), h);
        SmokeRings y = new SmokeRings();
        y.blow(0, 0, 0, 1, 0);
        h = mixed(17, 0, 0, 0, 0, 0, 1, 0, 0, -1, -1, -1);
        for (int step = 0; step < 20; step++) h = mixed(h, -1);
        h = mixed(h, 0, 0, 0, 1, 0);
        for (int i = 0; i < 4; i++) h = mixed(h, 3, -1, 1, 1);
        h = mixed(h, 0, 1, 0, BAD, 0, -1);
        for (int whom = 0; whom < 4; whom++) h = mixed(h, 0, 0, 0, -1);
        h = mixed(h, 0, -1, 1, -1, -1, 0, 0, 1, 30, -1, 0, 0);
        due("digest() of a ring without things", y.digest(), h);
        dueDigest(blown(with("......;..#...;......", "002p;053b;074t;131p;102t;112b;141p;179t", ".e.w.n.s.eewwnn")));
        dueDigest(blown(with(".", "001p;001b;001t", ".")));
        dueDigest(household(1, 1, 1));
        SmokeRings z = with("..", "003p", "");
        z.blow(0, 1, 3, 1, 2);
        due("wed(2, 1)", z.wed(2, 1), 9);
        dueDigest(z);
    }

    private static SmokeRings blown(SmokeRings x) {
        for (int r = 0; r < 8; r++) x.blow(r / 2, r * 5 % 17, r % 4, 1 + r * 2 % 9, r % 3);
        x.widens(1);
        x.seen(0, x.bound(0, 2) == NONE ? 4 : x.bound(0, 2));
        return x;
    }

    /** The digest against what the calls themselves tell. */
    private static void dueDigest(SmokeRings x) {
        long h = 17;
        int cells = x.count(0), things = x.count(1), rings = x.count(5);
        for (int what = 0; what < 8; what++) h = mixed(h, x.count(what));
        h = mixed(h, x.fault(0), x.fault(1), x.fault(2));
        for (int cell = 0; cell < cells; cell++) h = mixed(h, x.cell(cell));
        for (int step = 0; step < 20; step++) h = mixed(h, x.wind(step));
        for (int r = 0; r < rings; r++) {
            for (int what = 0; what < 5; what++) h = mixed(h, x.ring(r, what));
            for (int step : new int[] {0, 4, 9, 19}) {
                h = mixed(h, x.at(step, r, 0), x.at(step, r, 1), x.at(step, r, 2), x.at(step, r, 3));
            }
            h = mixed(h, x.aim(r, 0), x.aim(r, 1), x.aim(r, 2), x.breath(r, 0), x.whence(r, NONE), x.whence(r, 0));
        }
        for (int t = 0; t < things; t++) {
            h = mixed(h, x.thing(t, 0), x.thing(t, 1), x.thing(t, 2), x.bound(t, 0), x.bound(t, 1), x.bound(t, 2), x.stand(t));
            h = mixed(h, x.hush(t, NONE), x.hush(t, 0), x.still(5, 5, t, 0, 0), x.still(5, 5, t, 0, 1));
        }
        for (int whom = 0; whom < 4; whom++) {
            h = mixed(h, x.wed(whom, 0), x.wed(whom, 1), x.free(whom, 9, NONE), x.free(whom, 9, 0));
        }
        h = mixed(h, x.throughs(0), x.throughs(1), x.missed(), x.richest(), x.lonely(), x.calm(0), x.calm(1));
        h = mixed(h, x.never(), x.paces(), x.ask(), x.evening(7, 6, 0), x.evening(7, 6, 1));
        due("digest() by the calls", x.digest(), h);
    }

    public static void main(String[] args) {
        newObject();
        typing();
        wiping();
        undoing();
        faults();
        cells();
        things();
        winds();
        pace();
        blowing();
        rings();
        undoneRings();
        reading();
        looks();
        windsAndWalls();
        meetings();
        bounds();
        weddings();
        passages();
        misses();
        riches();
        loneliness();
        breaths();
        aims();
        standing();
        hushing();
        calms();
        freeing();
        seeing();
        neverBlown();
        whences();
        allPaces();
        asking();
        stillness();
        evenings();
        sheets();
        laying();
        copying();
        writing();
        counts();
        digests();
        System.out.println(checks + " answers, " + wrong + " not as due");
        if (wrong != 0) System.exit(1);
    }
}
