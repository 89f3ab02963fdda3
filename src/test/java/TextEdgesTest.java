/** The edges of the texts: Terms 1, and promises 1 to 9. */
public final class TextEdgesTest {
    private static final int NONE = Due.NONE, BAD = Due.BAD, NOT = Due.NOT, FULL = Due.FULL;
    private static final int[] ROOMS = {41, 39, 20};
    private static final String FULL_VALLEY = "......;".repeat(5) + "......";

    private static SmokeRings typed(int text, String s) {
        SmokeRings x = new SmokeRings();
        Due.type(x, text, s);
        return x;
    }

    private static void dueFault(int text, String s, int fault) {
        if (s.length() > ROOMS[text]) return;
        Due.due("fault(" + text + ") of " + s, typed(text, s).fault(text), fault);
    }

    private static void newObject() {
        SmokeRings x = new SmokeRings();
        Due.sentence("No CELLS, no THINGS, no WIND, no RINGS");
        for (int what = 0; what <= 8; what++) Due.due("count(" + what + ")", x.count(what), 0);
        for (int cell = 0; cell < 36; cell++) Due.due("cell(" + cell + ")", x.cell(cell), NONE);
        Due.due("thing(0, 0)", x.thing(0, 0), BAD);
        for (int step = 0; step < 20; step++) Due.due("wind(" + step + ")", x.wind(step), NONE);
        Due.due("ring(0, 0)", x.ring(0, 0), BAD);
        Due.due("back()", x.back(), NOT);
        for (int text = 0; text < 3; text++) {
            Due.due("fault(" + text + ")", x.fault(text), NONE);
            Due.due("undo(" + text + ")", x.undo(text), NOT);
            Due.due("wipe(" + text + ")", x.wipe(text), 0);
        }
        Due.due("forget()", x.forget(), 0);
        Due.sentence("all SHEETS are LOST");
        for (int s = 0; s < 4; s++) {
            for (int form = 0; form < 3; form++) Due.due("get(" + s + ", " + form + ", 0)", x.get(s, form, 0), Due.LEAST);
            Due.due("lose(" + s + ")", x.lose(s), Due.NULL);
            Due.due("read(" + s + ")", x.read(s), Due.NULL);
        }
        Due.sentence("WIDENS (1 to 4; 2 at first)");
        Due.due("widens(2)", x.widens(2), 2);
    }

    private static void rooms() {
        String[] of = {"THE VALLEY is a text of up to 41 bytes", "THINGS are a text of up to 39 bytes", "THE WIND is a text of up to 20 bytes"};
        for (int text = 0; text < 3; text++) {
            Due.sentence(of[text]);
            SmokeRings x = new SmokeRings();
            for (int n = 1; n <= ROOMS[text]; n++) Due.due("type(" + text + ", 0), the " + n + "-th", x.type(text, 0), n);
            Due.due("type of one too many", x.type(text, '.'), FULL);
            Due.due("type of one too many, again", x.type(text, 255), FULL);
            Due.due("count of bytes", x.count(2 + text), ROOMS[text]);
            Due.due("undo behind FULL", x.undo(text), ROOMS[text] - 1);
            Due.due("type behind undo", x.type(text, 255), ROOMS[text]);
            Due.due("type of one too many", x.type(text, 0), FULL);
            Due.due("wipe of a full one", x.wipe(text), ROOMS[text]);
            Due.due("type behind wipe", x.type(text, 1), 1);
            for (int other = 0; other < 3; other++) {
                Due.due("count(" + (2 + other) + ")", x.count(2 + other), other == text ? 1 : 0);
            }
        }
        Due.sentence("What FULL refuses changes nothing");
        SmokeRings x = typed(0, FULL_VALLEY);
        Due.due("type(0, '#')", x.type(0, '#'), FULL);
        Due.due("fault(0)", x.fault(0), NONE);
        Due.due("count(0)", x.count(0), 36);
        Due.due("cell(35)", x.cell(35), 0);
        x = typed(1, Due.things(8, "399t"));
        Due.due("type(1, ';')", x.type(1, ';'), FULL);
        Due.due("fault(1)", x.fault(1), NONE);
        Due.due("count(1)", x.count(1), 8);
        x = typed(2, "n".repeat(20));
        Due.due("type(2, 'x')", x.type(2, 'x'), FULL);
        Due.due("fault(2)", x.fault(2), NONE);
        Due.due("wind(19)", x.wind(19), 0);
    }

    private static void rowsAndCells() {
        for (int columns = 1; columns <= 6; columns++) {
            String row = ".".repeat(columns);
            for (int rows = 1; rows <= 6; rows++) {
                Due.sentence("ROWS, 6 at most, with ; between them, each of as many CELLS (1 to 6) as the first one");
                String valley = (row + ";").repeat(rows - 1) + row;
                SmokeRings x = typed(0, valley);
                Due.due("fault(0) of " + valley, x.fault(0), NONE);
                Due.due("count(0) of " + valley, x.count(0), rows * columns);
                Due.due("the last cell of " + valley, x.cell(rows * columns - 1), 0);
                if (rows * columns < 36) Due.due("the cell behind it", x.cell(rows * columns), NONE);
                Due.sentence("of one that is not ended, as behind a ;, its end");
                dueFault(0, valley + ";", valley.length() + 1);
                Due.sentence("of a ROW that is too short, its end, or its ;");
                for (int n = 1; n < columns && rows < 6; n++) {
                    String part = valley + ";" + row.substring(0, n);
                    dueFault(0, part, part.length());
                    dueFault(0, part + ";", part.length());
                    dueFault(0, part + ";.", part.length());
                    dueFault(0, part + "x", part.length());
                }
                Due.sentence("FAULT: the place of a CELL too many");
                for (String b : new String[] {".", "#"}) {
                    if (rows > 1) dueFault(0, valley + b, valley.length());
                    else dueFault(0, valley + b.repeat(7 - columns), 6);
                }
                Due.sentence("a ROW of none is too short");
                dueFault(0, valley + ";;", valley.length() + 1);
            }
            Due.sentence("FAULT: the first byte of a seventh ROW");
            if (columns < 6) {
                String six = (row + ";").repeat(6);
                for (String b : new String[] {".", "#", ";", "x", "..", ".x"}) {
                    dueFault(0, six + b, six.length());
                }
                Due.due("count(0)", typed(0, six).count(0), 0);
            }
        }
        Due.sentence("each of as many CELLS (1 to 6) as the first one");
        dueFault(0, ";", 0);
        dueFault(0, ";.", 0);
        dueFault(0, ".......", 6);
        dueFault(0, "......;.......", 13);
        dueFault(0, "..;...", 5);
        dueFault(0, "..;..;...", 8);
        dueFault(0, ".;..", 3);
        dueFault(0, "..;.;..", 4);
    }

    private static void everyByteOfTheValley() {
        for (int b = 0; b < 256; b++) {
            boolean cell = b == '.' || b == '#';
            Due.sentence("a CELL is . (open) or # (a wall)");
            SmokeRings x = new SmokeRings();
            x.type(0, b);
            Due.due("fault(0) of byte " + b, x.fault(0), cell ? NONE : 0);
            Due.due("cell(0) of byte " + b, x.cell(0), b == '.' ? 0 : b == '#' ? 1 : NONE);
            Due.sentence("with ; between ROWS");
            x = typed(0, ".");
            x.type(0, b);
            Due.due("fault(0) of . and byte " + b, x.fault(0), cell ? NONE : b == ';' ? 2 : 1);
            Due.due("count(0) of . and byte " + b, x.count(0), cell ? 2 : 0);
            x = typed(0, "......");
            x.type(0, b);
            Due.due("fault(0) of ...... and byte " + b, x.fault(0), b == ';' ? 7 : 6);
            x = typed(0, "......;.....");
            x.type(0, b);
            Due.due("fault(0) of ......;..... and byte " + b, x.fault(0), cell ? NONE : 12);
            x = typed(0, FULL_VALLEY.substring(0, 40));
            x.type(0, b);
            Due.due("fault(0) of 40 bytes and byte " + b, x.fault(0), cell ? NONE : 40);
            Due.due("cell(35) of 40 bytes and byte " + b, x.cell(35), b == '.' ? 0 : b == '#' ? 1 : NONE);
        }
    }

    private static void cellNumbers() {
        Due.sentence("CELLS are numbered from 0 on, as they come (0 to 35)");
        for (int wall = 0; wall < 36; wall++) {
            int place = wall + wall / 6;
            SmokeRings x = typed(0, FULL_VALLEY.substring(0, place) + "#" + FULL_VALLEY.substring(place + 1));
            for (int cell = 0; cell < 36; cell++) Due.due("cell(" + cell + ")", x.cell(cell), cell == wall ? 1 : 0);
        }
        SmokeRings x = typed(0, "#.;.#;##");
        int[] want = {1, 0, 0, 1, 1, 1, NONE, NONE};
        for (int cell = 0; cell < want.length; cell++) Due.due("cell(" + cell + ")", x.cell(cell), want[cell]);
        Due.sentence("What a CELL (0 to 35) is; NONE: there is no such CELL");
        x = typed(0, "......;......;......;......;......");
        Due.due("cell(29) of 30", x.cell(29), 0);
        Due.due("cell(30) of 30", x.cell(30), NONE);
        Due.due("cell(35) of 30", x.cell(35), NONE);
        Due.due("cell(36) of 30", x.cell(36), BAD);
        Due.due("cell(-1) of 30", x.cell(-1), BAD);
        Due.due("cell(36) of none", new SmokeRings().cell(36), BAD);
    }

    private static void everyByteOfThings() {
        String[] known = {"0123", "0123456789", "123456789", "pbt", ";"};
        String[] sentences = {"a figure 0 to 3", "and a figure, the CELL on which it stands (00 to 39)", "a figure, how THICK it is (1 to 9)",
            "and p (a person), b (a beast) or t (a thing)", "THINGS, with ; between them"};
        String thing = "399t;";
        for (int ahead = 0; ahead < 8; ahead++) {
            for (int place = 0; place < 5 && ahead * 5 + place < 39; place++) {
                Due.sentence(sentences[place]);
                String begun = thing.repeat(ahead) + thing.substring(0, place);
                for (int b = ahead == 0 ? 0 : '.'; b < (ahead == 0 ? 256 : 'v'); b++) {
                    SmokeRings x = typed(1, begun);
                    x.type(1, b);
                    boolean fits = known[place].indexOf(b) >= 0;
                    int fault = !fits ? begun.length() : place == 3 ? NONE : begun.length() + 1;
                    Due.due("fault(1) of " + begun + " and byte " + b, x.fault(1), fault);
                    Due.due("count(1) of " + begun + " and byte " + b, x.count(1), fault == NONE ? ahead + 1 : 0);
                }
            }
        }
    }

    private static void thingsToldOf() {
        Due.sentence("the CELL on which it stands (00 to 39), how THICK it is (1 to 9), p, b or t");
        String[] told = {"001p", "399t", "092b", "108p", "199b", "201t", "299p", "305b"};
        int[][] want = {{0, 1, 0}, {39, 9, 2}, {9, 2, 1}, {10, 8, 0}, {19, 9, 1}, {20, 1, 2}, {29, 9, 0}, {30, 5, 1}};
        SmokeRings x = typed(1, String.join(";", told));
        for (int t = 0; t < 8; t++) {
            for (int what = 0; what < 3; what++) Due.due("thing(" + t + ", " + what + ")", x.thing(t, what), want[t][what]);
            Due.due("thing(" + t + ", -1)", x.thing(t, -1), BAD);
            Due.due("thing(" + t + ", 3)", x.thing(t, 3), BAD);
        }
        Due.sentence("THINGS, 8 at most (0 on)");
        for (int n = 0; n <= 8; n++) {
            x = typed(1, Due.things(n, "399t"));
            Due.due("fault(1) of " + n, x.fault(1), NONE);
            Due.due("count(1) of " + n, x.count(1), n);
            for (int what = 0; what < 3; what++) {
                if (n > 0) Due.due("thing(" + (n - 1) + ", " + what + ") of " + n, x.thing(n - 1, what), new int[] {39, 9, 2}[what]);
                Due.due("thing(" + n + ", " + what + ") of " + n, x.thing(n, what), BAD);
                Due.due("thing(-1, " + what + ") of " + n, x.thing(-1, what), BAD);
            }
        }
        Due.sentence("FAULT of a ninth THING: there is no room for it, nor for the ; ahead of it");
        Due.due("type(1, ';')", x.type(1, ';'), FULL);
        Due.due("type(1, '0')", x.type(1, '0'), FULL);
        Due.due("fault(1)", x.fault(1), NONE);
        Due.due("count(1)", x.count(1), 8);
    }

    private static void winds() {
        Due.sentence("n, e, s or w, the way it drives, or . (none)");
        for (int b = 0; b < 256; b++) {
            int way = "nesw".indexOf(b);
            for (int place : new int[] {0, 1, 19}) {
                SmokeRings x = typed(2, "w".repeat(place));
                x.type(2, b);
                boolean fits = way >= 0 || b == '.';
                Due.due("fault(2) of byte " + b + " at " + place, x.fault(2), fits ? NONE : place);
                Due.due("wind(" + place + ") of byte " + b, x.wind(place), way);
                if (place > 0) Due.due("wind(0) with byte " + b, x.wind(0), fits ? 3 : NONE);
            }
        }
        Due.sentence("one for each STEP (0 on); none on later ones");
        for (int n = 0; n <= 20; n++) {
            SmokeRings x = typed(2, "e".repeat(n));
            Due.due("fault(2) of " + n, x.fault(2), NONE);
            for (int step = 0; step < 20; step++) Due.due("wind(" + step + ") of " + n, x.wind(step), step < n ? 1 : NONE);
            Due.due("wind(20) of " + n, x.wind(20), BAD);
            Due.due("wind(-1) of " + n, x.wind(-1), BAD);
        }
    }

    private static void faults() {
        Due.sentence("FAULT: an empty one is well");
        for (int text = 0; text < 3; text++) {
            SmokeRings x = new SmokeRings();
            Due.due("fault(" + text + ")", x.fault(text), NONE);
            x.type(text, 'x');
            Due.due("fault(" + text + ") of x", x.fault(text), 0);
            x.undo(text);
            Due.due("fault(" + text + ") of x undone", x.fault(text), NONE);
            x.type(text, 'x');
            x.wipe(text);
            Due.due("fault(" + text + ") of x wiped", x.fault(text), NONE);
        }
        Due.sentence("FAULT: the place of the first byte with which it cannot go on");
        dueFault(0, "..x.x", 2);
        dueFault(0, "x;;", 0);
        dueFault(0, "..;..;.x;", 7);
        dueFault(1, "001p;001x;4", 8);
        dueFault(1, "x", 0);
        dueFault(1, "001p;4", 5);
        dueFault(2, "nx.x", 1);
        dueFault(2, "................... ", 19);
        Due.sentence("FAULT of one that is not ended: its end");
        String things = Due.things(8, "123b");
        for (int n = 1; n <= things.length(); n++) dueFault(1, things.substring(0, n), n % 5 == 4 ? NONE : n);
        for (int n = 1; n <= 41; n++) dueFault(0, FULL_VALLEY.substring(0, n), n < 7 || n % 7 == 6 ? NONE : n);
    }

    private static void asIfEmpty() {
        Due.sentence("With a FAULT a text is as if it was empty: the valley");
        int[] ring = Due.blown(0, 0, 1, 1, 2);
        SmokeRings x = Due.with("..", "001p", "", ring);
        Due.dueBound(x, 0, 0, 0, 2);
        x.type(0, ';');
        Due.due("count(0)", x.count(0), 0);
        Due.due("count(2)", x.count(2), 3);
        for (int cell = 0; cell < 36; cell++) Due.due("cell(" + cell + ")", x.cell(cell), NONE);
        Due.dueAt(x, 0, 0, Due.BROKEN, NONE, 1, 1);
        Due.dueUnbound(x, 0);
        Due.due("stand(0)", x.stand(0), NONE);
        Due.due("whence(0, NONE)", x.whence(0, NONE), 0);
        Due.due("undo(0)", x.undo(0), 2);
        Due.due("count(0), mended", x.count(0), 2);
        Due.dueBound(x, 0, 0, 0, 2);
        Due.sentence("With a FAULT a text is as if it was empty: things");
        x.type(1, ';');
        Due.due("count(1)", x.count(1), 0);
        Due.due("count(3)", x.count(3), 5);
        Due.due("count(6)", x.count(6), 0);
        Due.due("thing(0, 0)", x.thing(0, 0), BAD);
        Due.due("bound(0, 0)", x.bound(0, 0), BAD);
        Due.dueAt(x, 19, 0, Due.FADED, 1, 10, 0);
        Due.due("undo(1)", x.undo(1), 4);
        Due.dueBound(x, 0, 0, 0, 2);
        Due.sentence("With a FAULT a text is as if it was empty: the wind");
        x = Due.with("...", "", ".e", ring);
        Due.due("at(1, 0, 1)", x.at(1, 0, 1), 2);
        x.type(2, 'x');
        Due.due("wind(1)", x.wind(1), NONE);
        Due.due("at(1, 0, 1)", x.at(1, 0, 1), 1);
        Due.due("count(4)", x.count(4), 3);
        Due.due("undo(2)", x.undo(2), 2);
        Due.due("wind(1)", x.wind(1), 1);
        Due.due("at(1, 0, 1)", x.at(1, 0, 1), 2);
    }

    private static void typingWipingUndoing() {
        Due.sentence("A byte (0 to 255) comes behind a text: how many. BAD");
        for (int text = 0; text < 3; text++) {
            SmokeRings x = new SmokeRings();
            for (int b : new int[] {-1, 256, Due.LEAST, Due.MOST, 256 + '.'}) Due.due("type(" + text + ", " + b + ")", x.type(text, b), BAD);
            Due.due("type(" + text + ", 0)", x.type(text, 0), 1);
            Due.due("type(" + text + ", 255)", x.type(text, 255), 2);
        }
        for (int text : new int[] {-1, 3, Due.LEAST, Due.MOST}) {
            SmokeRings x = new SmokeRings();
            Due.due("type(" + text + ", 46)", x.type(text, 46), BAD);
            Due.due("wipe(" + text + ")", x.wipe(text), BAD);
            Due.due("undo(" + text + ")", x.undo(text), BAD);
            Due.due("fault(" + text + ")", x.fault(text), BAD);
        }
        Due.sentence("BAD ahead of FULL");
        for (int text = 0; text < 3; text++) {
            SmokeRings x = typed(text, ".".repeat(ROOMS[text]));
            Due.due("type(" + text + ", 256)", x.type(text, 256), BAD);
            Due.due("type(" + text + ", -1)", x.type(text, -1), BAD);
            Due.due("type(" + text + ", 255)", x.type(text, 255), FULL);
        }
        Due.sentence("A text is empty: how many bytes it had");
        for (int text = 0; text < 3; text++) {
            for (int n : new int[] {0, 1, ROOMS[text] - 1, ROOMS[text]}) {
                SmokeRings x = typed(text, "x".repeat(n));
                Due.due("wipe(" + text + ") of " + n, x.wipe(text), n);
                Due.due("wipe(" + text + ") again", x.wipe(text), 0);
                Due.due("fault(" + text + ")", x.fault(text), NONE);
            }
        }
        Due.sentence("The last byte of a text is undone: how many are left; NOT: it is empty");
        for (int text = 0; text < 3; text++) {
            SmokeRings x = typed(text, "x".repeat(ROOMS[text]));
            for (int n = ROOMS[text] - 1; n >= 0; n--) Due.due("undo(" + text + ")", x.undo(text), n);
            Due.due("undo(" + text + ") of none", x.undo(text), NOT);
            Due.due("undo(" + text + ") of none, again", x.undo(text), NOT);
            Due.due("type(" + text + ", 46)", x.type(text, 46), 1);
        }
        SmokeRings x = typed(0, "..#");
        x.undo(0);
        x.type(0, '.');
        Due.due("cell(2), undone and typed anew", x.cell(2), 0);
        Due.due("cell(1)", x.cell(1), 0);
    }

    private static void widening() {
        Due.sentence("WIDENS (1 to 4): what it was. BAD");
        SmokeRings x = new SmokeRings();
        int was = 2;
        for (int v : new int[] {1, 0, 4, 5, 3, Due.LEAST, 2, Due.MOST, 2, -1, 1, 1}) {
            boolean may = v >= 1 && v <= 4;
            Due.due("widens(" + v + ")", x.widens(v), may ? was : BAD);
            was = may ? v : was;
        }
    }

    public static void main(String[] args) {
        newObject();
        rooms();
        rowsAndCells();
        everyByteOfTheValley();
        cellNumbers();
        everyByteOfThings();
        thingsToldOf();
        winds();
        faults();
        asIfEmpty();
        typingWipingUndoing();
        widening();
        Due.finish();
    }
}
